/** Promises 12 to 20: hours and the other acts. */
public final class ActsTest {
    private static final int[] KINDS = {0, 1, 2, 3, 4};

    public static void main(String[] args) {
        hours();
        draws();
        brokenInHours();
        begin();
        stop();
        another();
        finish();
        retract();
        guard();
        noise();
        turn();
        repeat();
        Due.close("ActsTest");
    }

    private static int drawn = 0;

    private static int draw() {
        drawn = drawn * 1103515245 + 12345;
        return drawn >> 16 & 0x7fff;
    }

    private static void hours() {
        HalfOaths x = Due.hills("oath go by 1 by 2 by 3 by 4 breath 2;oath give sum 3 sum 4 breath 9;oath wed;"
            + "noise 0;hour 999;ears 7", "hear 4 if person < 1");
        x.begin(0);
        x.begin(1);
        Due.same("12: one is finished", x.hours(1), 1);
        Due.same("12: hour", x.count(4), 1000);
        Due.same("12: ears", x.count(5), 8);
        Due.same("12: said", x.person(0, 4), 2);
        Due.same("12: held", x.person(1, 3), 2);
        Due.same("12: all count", x.person(1, 4), 3);
        Due.same("12: two hours more", x.hours(2), 1);
        Due.same("12: ears", x.count(5), 13);
        Due.same("12: log", x.log(0, 0), 1001);
        Due.same("12: log", x.log(0, 2), 5);
        Due.same("12: log", x.log(1, 0), 999);
        Due.same("12: silent ones are not spoken for", x.person(2, 3), 0);
        Due.same("12: nobody speaks", x.hours(60), 0);
        Due.same("12: hours go by", x.count(4), 1062);
        Due.noNumber("12", () -> x.hours(0));
        Due.noNumber("12", () -> x.hours(61));
        Due.noNumber("12", () -> x.hours(-1));
        Due.same("12: nothing happened", x.count(4), 1062);
        for (int i = 0; i < 160; i++) {
            x.hours(60);
        }
        Due.same("12: 9999 hours at most", x.count(4), 9999);
        HalfOaths y = Due.hills("oath go;noise 0;ears 999",
            String.join(";", java.util.Collections.nCopies(12, "hear 40")));
        for (int i = 0; i < 30; i++) {
            y.begin(0);
            y.hours(1);
            y.retract(0);
        }
        Due.same("12: 9999 heard at most", y.count(5), 9999);
    }

    private static void draws() {
        HalfOaths x = Due.hills("oath go by 1 by 2 by 3 by 4 by 5;oath give guards 9;oath go;noise 0");
        x.seed(12345);
        x.begin(0);
        x.begin(1);
        x.hours(1);
        drawn = 12345;
        draw();
        draw();
        Due.same("12: a draw for each one that speaks, whatever the noise", x.seed(0), drawn);
        x.noise(100);
        x.seed(777);
        drawn = 777;
        draw();
        int kind = draw() % 5;
        x.hours(1);
        Due.same("12: a second draw just when broken in on", x.seed(0), drawn);
        Due.same("12: the kind by the second draw", x.log(0, 2), kind);
    }

    /** Hours of one person from each of many seeds, beside the same told by hand. */
    private static void brokenInHours() {
        for (int seed = -60; seed < 60; seed++) {
            HalfOaths x = Due.hills("oath go by 1 by 2 by 3 by 4 by 5 by 6 breath 2 guards 1;noise 60");
            x.seed(seed);
            drawn = seed;
            x.begin(0);
            int said = 0;
            int state = 1;
            int held = 0;
            for (int hour = 0; hour < 4 && state == 1; hour++) {
                if (draw() % 100 < 50) {
                    int kind = draw() % 5;
                    state = kind == 1 ? 1 : 2;
                    held = kind == 2 ? Math.max(0, said - 1) : kind == 3 ? Math.max(0, said - 2) : said;
                }
                if (state == 1) {
                    said = Math.min(7, said + 2);
                    state = said == 7 ? 2 : 1;
                    held = said;
                }
                Due.same("12: held in an hour, seed " + seed, x.hours(1), state == 2 ? 1 : 0);
                Due.same("12: state, seed " + seed, x.person(0, 3), state);
                Due.same("12: count, seed " + seed, x.person(0, 4), state == 1 ? said : held);
                Due.same("12: ears, seed " + seed, x.count(5), state == 2 ? 1 : 0);
            }
            Due.same("12: draws, seed " + seed, x.seed(0), drawn);
        }
    }

    private static void begin() {
        HalfOaths x = Due.hills("oath go by 1 by 2;oath give");
        Due.same("13: words to say", x.begin(0), 3);
        Due.same("13: speaking", x.which(1), 1);
        Due.same("13: nothing said", x.person(0, 4), 0);
        Due.cannotBe("13: of one speaking", () -> x.begin(0));
        x.stop(0, 0);
        Due.cannotBe("13: of one held", () -> x.begin(0));
        Due.outside("13", () -> x.begin(2));
        Due.outside("13", () -> x.begin(-1));
        Due.same("13: no row", x.count(8), 1);
    }

    private static HalfOaths said(int words) {
        HalfOaths x = Due.hills("oath wed sum 1 if 2 not by 4 to 3;oath go;noise 0");
        x.begin(0);
        if (words > 0) {
            x.hours(words);
        }
        return x;
    }

    private static void stop() {
        int[][] counts = {{0, -1, 0, 0, 0}, {1, -1, 0, 0, 1}, {2, -1, 1, 0, 2}, {3, -1, 2, 1, 3}, {5, -1, 4, 3, 5}};
        for (int[] row : counts) {
            int words = row[0];
            for (int kind : KINDS) {
                HalfOaths x = said(words);
                String what = "14: kind " + kind + " behind " + words;
                Due.same(what, x.stop(0, kind), row[kind]);
                Due.same(what, x.person(0, 3), kind == 1 ? 1 : 2);
                Due.same(what, x.person(0, 4), kind == 1 ? words : row[kind]);
                Due.same(what, x.count(5), 0);
                Due.same(what, x.count(8), 1);
                Due.same(what, x.log(0, 0), words);
                Due.same(what, x.log(0, 1), 0);
                Due.same(what, x.log(0, 2), kind);
                Due.same(what, x.log(0, 3), kind == 1 ? words : row[kind]);
                Due.same(what, x.log(0, 4), x.reading(0, kind == 1 ? words : row[kind], 6));
            }
        }
        HalfOaths x = said(2);
        x.stop(0, 1);
        Due.same("14: behind a dog one goes on", x.hours(4), 1);
        Due.same("14: to the end", x.person(0, 4), 6);
        Due.outside("14: the person first", () -> x.stop(2, 9));
        Due.outside("14", () -> x.stop(-1, 0));
        Due.noNumber("14: the kind first", () -> x.stop(0, 5));
        Due.noNumber("14", () -> x.stop(0, -1));
        Due.cannotBe("14: of one held", () -> x.stop(0, 0));
        Due.cannotBe("14: of one silent", () -> x.stop(1, 1));
    }

    private static void another() {
        HalfOaths x = said(3);
        x.begin(1);
        Due.same("14: somebody else speaks", x.stop(0, 4), 0);
        Due.same("14: held with none", x.person(0, 3), 2);
        Due.same("14: he is not broken in on by that", x.person(1, 3), 1);
        Due.same("14: nobody else speaks any more", x.stop(1, 4), 0);
        x.retract(0);
        x.begin(0);
        x.hours(2);
        Due.same("14: as by a cough", x.stop(0, 4), 2);
        HalfOaths y = said(3);
        y.begin(1);
        y.finish(1);
        Due.same("14: one held does not speak", y.stop(0, 4), 3);
    }

    private static void finish() {
        HalfOaths x = Due.hills("oath give sum 4 to 5;oath go", "weigh 10 if whole");
        Due.cannotBe("15: of one silent", () -> x.finish(0));
        x.begin(0);
        Due.same("15: weight", x.finish(0), 16);
        Due.same("15: held", x.person(0, 3), 2);
        Due.same("15: all count", x.person(0, 4), 3);
        Due.same("15: nothing is heard", x.count(5), 0);
        int[] row = {0, 0, 5, 3, 16};
        for (int what = 0; what < 5; what++) {
            Due.same("15: row", x.log(0, what), row[what]);
        }
        Due.cannotBe("15: of one held", () -> x.finish(0));
        Due.outside("15", () -> x.finish(2));
        Due.outside("15", () -> x.finish(-1));
    }

    private static void retract() {
        HalfOaths x = said(4);
        Due.cannotBe("16: of one speaking", () -> x.retract(0));
        Due.cannotBe("16: of one silent", () -> x.retract(1));
        x.stop(0, 2);
        x.hours(3);
        Due.same("16: words that counted", x.retract(0), 3);
        Due.same("16: silent", x.person(0, 3), 0);
        Due.same("16: none count", x.person(0, 4), 0);
        int[] row = {7, 0, 6, 3, 7};
        for (int what = 0; what < 5; what++) {
            Due.same("16: row", x.log(0, what), row[what]);
        }
        Due.same("16: rows", x.count(8), 2);
        Due.outside("16", () -> x.retract(2));
        Due.outside("16", () -> x.retract(-1));
    }

    private static void guard() {
        HalfOaths x = Due.hills("oath go guards 4");
        Due.same("17: how many there were", x.guard(0, 9), 4);
        Due.same("17: how many there were", x.guard(0, 0), 9);
        Due.same("17: as told", x.person(0, 2), 0);
        Due.noNumber("17", () -> x.guard(0, 10));
        Due.noNumber("17", () -> x.guard(0, -1));
        Due.outside("17: the person first", () -> x.guard(1, 10));
        Due.outside("17", () -> x.guard(-1, 1));
        Due.same("17: acts", x.count(9), 2);
    }

    private static void noise() {
        HalfOaths x = new HalfOaths();
        Due.same("18: it was", x.noise(100), 20);
        Due.same("18: it was", x.noise(0), 100);
        Due.same("18: as told", x.count(3), 0);
        Due.noNumber("18", () -> x.noise(101));
        Due.noNumber("18", () -> x.noise(-1));
        Due.same("18: acts", x.count(9), 2);
    }

    private static void turn() {
        HalfOaths x = new HalfOaths();
        Due.same("19: it was", x.turn(3, 2), 0);
        Due.same("19: it was", x.turn(3, 1), 2);
        Due.same("19: as told", x.mode(3), 1);
        Due.same("19: of no other", x.mode(2), 0);
        Due.noNumber("19", () -> x.turn(0, 3));
        Due.noNumber("19", () -> x.turn(0, -1));
        Due.outside("19: the distance first", () -> x.turn(4, 3));
        Due.outside("19", () -> x.turn(-1, 0));
        Due.same("19: acts", x.count(9), 2);
    }

    private static void repeat() {
        HalfOaths x = Due.hills("oath go by 1 breath 3 guards 2;oath give sum 4 to 2 breath 5 guards 6;oath wed");
        Due.same("20: words", x.repeat(0, 1), 3);
        Due.same("20: kind", x.word(0, 2, false), 7);
        Due.same("20: n", x.word(0, 2, true), 2);
        Due.same("20: its own breath", x.person(0, 1), 3);
        Due.same("20: its own guards", x.person(0, 2), 2);
        Due.same("20: twins", x.twins(), 1);
        x.begin(1);
        Due.same("20: of one that speaks", x.repeat(2, 1), 3);
        Due.same("20: a shorter one", x.count(6), 9);
        Due.cannotBe("20: to one that speaks", () -> x.repeat(1, 0));
        x.finish(1);
        Due.cannotBe("20: to one held", () -> x.repeat(1, 0));
        Due.noNumber("20: both are one", () -> x.repeat(1, 1));
        Due.outside("20", () -> x.repeat(3, 3));
        Due.outside("20", () -> x.repeat(0, 3));
        Due.outside("20", () -> x.repeat(-1, 0));
        Due.outside("20: the person first", () -> x.repeat(1, -1));
        HalfOaths y = Due.hills("oath go by 1 by 2;oath wed");
        y.repeat(0, 1);
        Due.same("20: what was behind is gone", y.word(0, 1, false), -1);
        Due.same("20: words of all", y.count(6), 2);
    }
}
