/** Promises 7 to 11: what is told of people, words, readings and modes. */
public final class TellingTest {
    public static void main(String[] args) {
        person();
        sharesAndGoing();
        word();
        clauses();
        modesOfDistances();
        weights();
        limits();
        hold();
        mode();
        Due.close("TellingTest");
    }

    private static void person() {
        HalfOaths x = Due.hills("oath give sum 4 not to 1 sum 9 breath 2 guards 3;oath go");
        int[] due = {5, 2, 3, 0, 0, 1, 5, 0, 3, 0, 0};
        for (int what = 0; what < due.length; what++) {
            Due.same("7: of one silent, " + what, x.person(0, what), due[what]);
        }
        x.begin(0);
        x.noise(0);
        x.hours(1);
        Due.same("7: speaking", x.person(0, 3), 1);
        Due.same("7: said", x.person(0, 4), 2);
        Due.same("7: going", x.person(0, 9), 1);
        x.stop(0, 2);
        Due.same("7: held", x.person(0, 3), 2);
        Due.same("7: count", x.person(0, 4), 1);
        Due.same("7: nobody goes on who is held", x.person(0, 9), 0);
        x.retract(0);
        Due.same("7: silent", x.person(0, 3), 0);
        Due.same("7: silent", x.person(0, 4), 0);
        HalfOaths y = Due.hills("oath go sum 1 sum 2;oath go by 1 by 3 not by 1");
        Due.same("7: worst of several", y.person(0, 5), 1);
        Due.same("7: best of several", y.person(0, 6), 1);
        Due.same("7: sure", y.person(0, 7), 2);
        Due.same("7: worst", y.person(1, 5), 1);
        Due.same("7: best", y.person(1, 6), 2);
        HalfOaths z = Due.hills("oath wed if 1 if 2 not go breath 3");
        Due.same("7: worst of what falls", z.person(0, 5), 4);
        Due.same("7: sure of what falls", z.person(0, 7), 2);
        Due.same("7: hours needed, rounded up", z.person(0, 8), 2);
        Due.outside("7", () -> x.person(-1, 0));
        Due.outside("7", () -> x.person(2, 0));
        Due.outside("7: the person first", () -> x.person(2, 11));
        Due.noThing("7", () -> x.person(0, 11));
        Due.noThing("7", () -> x.person(0, -1));
    }

    private static void sharesAndGoing() {
        HalfOaths x = Due.hills("oath go by 2 sum 1;oath give sum 5;oath go by 2;oath go by 3;oath go;noise 0");
        Due.same("7: no share", x.person(0, 10), 0);
        x.begin(1);
        x.finish(1);
        x.begin(2);
        x.finish(2);
        Due.same("7: a share", x.person(1, 10), 33);
        Due.same("7: a share", x.person(2, 10), 66);
        Due.same("7: a share of one not held", x.person(0, 10), 0);
        x.begin(0);
        Due.same("7: nothing said yet", x.person(0, 9), 31);
        x.hours(1);
        Due.same("7: one word said", x.person(0, 9), 29);
        x.hours(1);
        Due.same("7: two words said, kind and n", x.person(0, 9), 5);
        Due.same("7: of one silent", x.person(3, 9), 0);
    }

    private static void word() {
        HalfOaths x = Due.hills("oath to 7 go open by 0 shut");
        int[] kinds = {7, 1, 8, 6, 9};
        int[] numbers = {7, 0, 0, 0, 0};
        for (int k = 0; k < 5; k++) {
            Due.same("8: kind", x.word(0, k, false), kinds[k]);
            Due.same("8: n", x.word(0, k, true), numbers[k]);
        }
        Due.same("8: behind the last", x.word(0, 5, false), -1);
        Due.same("8: behind the last", x.word(0, 5, true), -1);
        Due.same("8: ahead of the first", x.word(0, -1, false), -1);
        Due.same("8: far off", x.word(0, Integer.MAX_VALUE, true), -1);
        Due.outside("8", () -> x.word(1, 0, false));
        Due.outside("8", () -> x.word(-1, 0, false));
    }

    private static void told(String what, HalfOaths x, int person, int k, int... due) {
        for (int i = 0; i < due.length; i++) {
            Due.same("9: " + what + ", " + k + " words, told " + i, x.reading(person, k, i), due[i]);
        }
    }

    private static void clauses() {
        HalfOaths x = Due.hills("oath sum 9 wed if 3 to 4 by 5 not give if 0 by 7 to 9 not;"
            + "oath go open give sum 3 if 1 by 4 to 2 not shut not;"
            + "oath open open open wed not shut not shut not shut");
        told("nothing", x, 0, 0, 0, 0, 0, 10, 0, 0, 0, 1);
        told("no verb yet", x, 0, 1, 0, 9, 0, 10, 0, 0, 0, 1);
        told("a verb", x, 0, 2, 3, 9, 0, 10, 0, 0, 9, 1);
        told("turned", x, 0, 6, 3, 9, 8, 5, 16, 1, 3, 1);
        told("the first verb stays, the lesser by", x, 0, 9, 3, 9, 9, 5, 16, 1, 2, 1);
        told("turned back", x, 0, 11, 3, 9, 9, 5, 528, 0, 5, 1);
        told("a clause that is dropped", x, 1, 8, 1 + 1, 0, 0, 10, 0, 0, 2, 1);
        told("a clause that is laid", x, 1, 9, 2, 3, 2, 4, 4, 1, 4, 1);
        told("turned and turned", x, 1, 10, 2, 3, 2, 4, 4, 0, 8, 1);
        told("clauses within clauses, all shut", x, 2, 10, 3, 0, 0, 10, 0, 1, 4, 1);
        told("clauses within clauses, one open", x, 2, 9, 0, 0, 0, 10, 0, 0, 0, 1);
        Due.noNumber("9: too many words", () -> x.reading(2, 11, 0));
        Due.noNumber("9: fewer than none", () -> x.reading(2, -1, 0));
        Due.noNumber("9: the number first", () -> x.reading(2, 11, 99));
        Due.outside("9: the person first", () -> x.reading(3, 11, 99));
        Due.noThing("9", () -> x.reading(2, 10, 8));
        Due.noThing("9", () -> x.reading(2, 10, -1));
    }

    private static void modesOfDistances() {
        HalfOaths x = Due.hills("oath open sum 1 open sum 2 open sum 4 wed shut shut shut");
        int[][] due = {
            {0, 0, 0, 0, 0}, {1, 0, 0, 0, 0}, {1, 1, 0, 6, 0}, {1, 1, 1, 7, 0}, {2, 1, 1, 7, 1}, {2, 2, 1, 7, 0},
            {2, 2, 2, 7, 1}, {0, 1, 1, 3, 0}, {0, 0, 1, 1, 0}, {0, 2, 1, 3, 1}, {1, 2, 2, 7, 0}, {1, 0, 1, 1, 0}};
        for (int[] row : due) {
            for (int distance = 0; distance < 3; distance++) {
                x.turn(distance, row[distance]);
            }
            boolean all = row[0] != 0 && row[1] != 0 && row[2] != 0;
            String what = "9: modes " + row[0] + row[1] + row[2];
            Due.same(what, x.reading(0, 7, 1), row[2] == 0 ? 0 : row[3]);
            Due.same(what, x.reading(0, 7, 5), row[4]);
            Due.same(what, x.reading(0, 7, 0), all ? 3 : 0);
        }
        x.turn(0, 2);
        x.turn(1, 0);
        x.turn(2, 0);
        x.turn(3, 1);
        Due.same("9: the innermost is at distance 0", x.reading(0, 2, 5), 1);
        Due.same("9: one shut is not done with", x.reading(0, 9, 1), 7);
        Due.same("9: one shut is not done with", x.reading(0, 9, 5), 1);
        Due.same("9: all shut", x.reading(0, 10, 5), 0);
    }

    private static void weights() {
        HalfOaths x = Due.hills("oath give sum 5 to 1 to 2 to 2 not;oath go by 3 not;oath wed if 1 if 2 if 3 if 4 if 5 not");
        int[][] due = {{0, 0, 5, 7, 9, 9, 4}, {0, 2, 9, 4}, {0, 9, 7, 5, 3, 1, 0, 0}};
        for (int person = 0; person < 3; person++) {
            for (int k = 0; k < due[person].length; k++) {
                Due.same("9: weight " + person + " " + k, x.reading(person, k, 6), due[person][k]);
            }
        }
    }

    private static void limits() {
        HalfOaths x = Due.hills("oath sum 9 sum 9 sum 9 sum 9 sum 9 sum 9 sum 9 sum 9 sum 9 sum 9 sum 9 sum 8;"
            + "oath go by 0 by 9;oath give sum 9 sum 9 sum 9 sum 9 sum 9 open sum 9 sum 9 sum 9 sum 9 shut");
        Due.same("9: as much as may be", x.reading(0, 11, 1), 99);
        Due.same("9: 99 at most", x.reading(0, 12, 1), 99);
        Due.same("9: 12", x.reading(1, 3, 6), 12);
        Due.same("9: laid", x.reading(2, 12, 1), 81);
    }

    private static void hold() {
        HalfOaths x = Due.hills("oath wed sum 3 if 2 by 4 to 1 not;noise 0;mode 0 1", "hear 5 if count > 0;weigh 6 if person < 1");
        int[] none = {0, 0, 0, 10, 0, 0, 0, 1};
        for (int what = 0; what < 8; what++) {
            Due.same("10: of one silent", x.hold(0, what), none[what]);
        }
        x.begin(0);
        x.hours(5);
        for (int what = 0; what < 8; what++) {
            Due.same("10: of one speaking", x.hold(0, what), none[what]);
        }
        x.stop(0, 0);
        int[] due = {3, 3, 4, 4, 2, 0, 13, 6};
        for (int what = 0; what < 8; what++) {
            Due.same("10: of one held", x.hold(0, what), due[what]);
        }
        Due.noThing("10", () -> x.hold(0, 8));
        Due.noThing("10", () -> x.hold(0, -1));
        Due.outside("10", () -> x.hold(1, 8));
        Due.outside("10", () -> x.hold(-1, 0));
        HalfOaths y = Due.hills("oath open wed shut;noise 0");
        y.begin(0);
        y.hours(2);
        y.stop(0, 0);
        Due.same("10: dropped", y.hold(0, 0), 0);
        y.turn(0, 2);
        Due.same("10: by the modes that are", y.hold(0, 6), 4);
        Due.text(y, "weigh 7");
        y.law();
        Due.same("10: by the law that is", y.hold(0, 6), 11);
    }

    private static void mode() {
        HalfOaths x = Due.hills("mode 0 2;mode 3 1;mode 3 2;mode 1 1");
        int[] due = {2, 1, 0, 2};
        for (int distance = 0; distance < 4; distance++) {
            Due.same("11: mode", x.mode(distance), due[distance]);
        }
        Due.outside("11", () -> x.mode(4));
        Due.outside("11", () -> x.mode(-1));
    }
}
