/** Promises 21 to 25, 31 and 32: orders, fences, gainsaying, pairs and rests. */
public final class SearchTest {
    public static void main(String[] args) {
        order();
        orderOfUnits();
        fence();
        gainsay();
        peaceAndQuiet();
        pairs();
        rests();
        askedAgain();
        Due.close("SearchTest");
    }

    private static void isOrder(String what, HalfOaths x, int person, int sure, int... places) {
        Due.same("21: sure, " + what, x.order(person, -1), sure);
        for (int k = 0; k < places.length; k++) {
            Due.same("21: place " + k + ", " + what, x.order(person, k), places[k]);
        }
        Due.same("21: behind all, " + what, x.order(person, places.length), -1);
        Due.same("21: ahead of all, " + what, x.order(person, -2), -1);
    }

    private static void order() {
        HalfOaths x = Due.hills("oath sum 5 to 1 give;oath not if 1 wed;oath go by 3 by 5;oath go;"
            + "oath sum 1 sum 2 sum 3 sum 4 sum 5 sum 6 sum 7;oath sum 1 sum 2 sum 3 sum 4 sum 5 give");
        // whatever stands first, one word alone of this oath weighs nothing
        isOrder("all orders are alike", x, 0, 0, 0, 1, 2);
        isOrder("wed first", x, 1, 3, 2, 0, 1);
        isOrder("the first of several", x, 2, 2, 0, 1, 2);
        isOrder("one word", x, 3, 2, 0);
        isOrder("six units", x, 5, 0, 0, 1, 2, 3, 4, 5);
        for (int k = -2; k < 8; k++) {
            Due.same("21: seven units", x.order(4, k), -1);
        }
        Due.outside("21", () -> x.order(6, -1));
        Due.outside("21", () -> x.order(-1, 0));
        Due.text(x, "weigh 7 if person < 1 and not whole;ease 9 if count < 2 and person > 1");
        x.law();
        isOrder("by the law: whose", x, 0, 7, 2, 0, 1);
        isOrder("by the law: how many", x, 2, 0, 0, 1, 2);
        isOrder("no more count than there are", Due.hills("oath go by 6", "ease 40 if count > 2"), 0, 2, 0, 1);
        isOrder("in no other order either", Due.hills("oath by 6 go to 1", "ease 40 if count > 3"), 0, 2, 1, 0, 2);
    }

    private static void orderOfUnits() {
        HalfOaths x = Due.hills("oath not open wed to 1 shut open not go shut by 0;oath open open shut shut open shut go;"
            + "oath if 1 open wed shut if 2");
        isOrder("nothing holds of a verb in a clause that is open", x, 0, 0, 0, 1, 2, 3);
        x.turn(0, 1);
        isOrder("nor of a clause without words yet", x, 0, 0, 0, 1, 2, 3);
        isOrder("a verb at the end", x, 1, 2, 2, 0, 1);
        Due.text(x, "weigh 3 if empty;weigh 1 if count > 1");
        x.law();
        isOrder("clauses go together", x, 1, 2, 2, 0, 1);
    }

    private static void fence() {
        HalfOaths x = Due.hills("oath give sum 5 to 1 if 2 breath 2 guards 1;oath go;oath go;noise 30");
        int[][] due = {{0, 0}, {49, 0}, {50, 1}, {64, 1}, {65, 2}, {81, 2}, {82, 3}, {100, 3}};
        for (int[] row : due) {
            Due.same("22: " + row[0], x.fence(0, row[0]), row[1]);
        }
        x.guard(0, 9);
        Due.same("22: whatever guards there are", x.fence(0, 65), 2);
        x.noise(100);
        Due.same("22: one hour", x.fence(1, 90), 9);
        Due.same("22: none is enough", x.fence(1, 91), -1);
        Due.same("22: none is needed", x.fence(1, 0), 0);
        x.begin(1);
        Due.same("22: of one that speaks", x.fence(1, 50), 5);
        // 10000, 8700, 7569, 6585.03, 5728.97 (5728 if rounded down at each), 4983, 4335
        HalfOaths y = Due.hills("oath go by 1 by 2 by 3 by 4 by 5 by 6;noise 13");
        Due.same("22: rounded down at each hour", y.fence(0, 37), 0);
        Due.same("22: rounded down at each hour", y.fence(0, 38), 1);
        Due.noNumber("22", () -> y.fence(0, 101));
        Due.noNumber("22", () -> y.fence(0, -1));
        Due.outside("22: the person first", () -> y.fence(1, 101));
        Due.outside("22", () -> y.fence(-1, 0));
    }

    private static HalfOaths held(String text) {
        HalfOaths x = Due.hills(text);
        for (int person = 0; person < x.count(0); person++) {
            x.begin(person);
            x.finish(person);
        }
        return x;
    }

    private static void gainsay() {
        HalfOaths x = held("oath give to 1 to 2;oath give to 2 not;oath give to 3 not;oath go to 1 not;oath to 1 not;oath to 1");
        boolean[] due = {false, true, false, false, false, false};
        for (int other = 1; other < 6; other++) {
            int who = other;
            Due.same("23: 0 and " + other, x.gainsay(0, other), due[other]);
            Due.same("23: " + other + " and 0", x.gainsay(other, 0), due[other]);
            Due.noNumber("23: both are one", () -> x.gainsay(who, who));
        }
        Due.same("23: both turned", x.gainsay(1, 2), false);
        Due.same("23: no verb", x.gainsay(4, 5), false);
        x.retract(1);
        Due.same("23: one is not held", x.gainsay(0, 1), false);
        x.begin(1);
        Due.same("23: one speaks", x.gainsay(0, 1), false);
        Due.outside("23", () -> x.gainsay(6, 6));
        Due.outside("23", () -> x.gainsay(0, 6));
        Due.outside("23", () -> x.gainsay(-1, 0));
        Due.outside("23", () -> x.gainsay(0, -1));
    }

    private static void peaceAndQuiet() {
        HalfOaths none = Due.hills("oath give to 1;oath give to 1 not");
        Due.same("24: nobody is held", none.peace(), 0);
        Due.same("25: nobody is held", none.quiet(), 0);
        HalfOaths two = held("oath give to 1;oath give to 1 not");
        Due.same("24: the least of several", two.peace(), 1);
        Due.same("25: the least of several", two.quiet(), 1);
        HalfOaths star = held("oath give to 1;oath give to 2;oath give to 1 to 2 to 3 not;oath give to 3;oath wed;oath sum 1");
        Due.same("24: without one", star.peace(), 59);
        Due.same("25: one", star.quiet(), 4);
        star.retract(2);
        Due.same("24: held ones alone", star.peace(), 59);
        Due.same("25: nobody gainsays", star.quiet(), 0);
        HalfOaths path = held("oath go to 1;oath go to 1 to 2 not;oath go to 2 to 3;oath go to 3 not");
        Due.same("24: a row of four", path.peace(), 5);
        Due.same("25: a row of four", path.quiet(), 6 - 1);
        HalfOaths late = held("oath go to 1;oath go to 2;oath go to 1 to 2 not;oath go to 1 to 2 not;oath go to 1 to 2 not");
        Due.same("24: three of five", late.peace(), 28);
        Due.same("25: two of five", late.quiet(), 3);
    }

    private static void pairs() {
        HalfOaths none = new HalfOaths();
        Due.same("31: nobody", none.pairs(-1), 0);
        HalfOaths x = Due.hills("oath go by 1 by 2;oath go by 1 by 3;oath go by 1 by 2;oath give by 1 by 3;oath wed;oath sum 1");
        // 0-2 (3) and 1-3 (2), or 0-1 (2) and 2-3 (1), ..
        Due.same("31: words alike", x.pairs(-1), 5);
        int[] due = {2, 3, 0, 1, -1, -1};
        for (int person = 0; person < 6; person++) {
            Due.same("31: with whom", x.pairs(person), due[person]);
        }
        HalfOaths same = Due.hills("oath go;oath go;oath go");
        Due.same("31: one pair of three", same.pairs(-1), 1);
        Due.same("31: none is the least", same.pairs(0), -1);
        Due.same("31: then the others", same.pairs(1), 2);
        HalfOaths far = Due.hills("oath sum 1;oath sum 2;oath to 1;oath to 2");
        Due.same("31: nothing is alike", far.pairs(-1), 0);
        Due.same("31: nobody with anybody", far.pairs(3), -1);
        Due.outside("31", () -> far.pairs(4));
        Due.outside("31", () -> far.pairs(-2));
    }

    private static void rests() {
        // SURE, WEIGHT of all words, GUARDS: who would have more
        HalfOaths x = Due.hills("oath go;oath sum 1 go;oath sum 1;oath go guards 9;oath give sum 1 guards 2;oath give", "ease 1 if person > 4");
        Due.same("32: sure 2, all 2", x.rests(0), 1);
        Due.same("32: sure 0, all 2", x.rests(1), 0);
        Due.same("32: sure 0, all 0", x.rests(2), 8);
        Due.same("32: guarded", x.rests(3), 1);
        Due.same("32: sure 0, all 1", x.rests(4), 8);
        Due.same("32: sure 0, all 0", x.rests(5), 8);
        HalfOaths y = Due.hills("oath wed if 1 if 2 if 3 if 4;oath wed if 1 if 2 if 3");
        Due.same("32: sure 1, all 1", y.rests(0), 8);
        Due.same("32: sure 3, all 3", y.rests(1), 1);
        HalfOaths z = Due.hills("oath go by 1", "ease 10 if whole");
        Due.same("32: sure 1, all 1", z.rests(0), 8);
        HalfOaths both = Due.hills("oath go by 1 by 0", "ease 11 if whole");
        Due.same("32: sure 1, all 1", both.rests(0), 8);
        Due.outside("32", () -> x.rests(6));
        Due.outside("32", () -> x.rests(-1));
    }

    /** What was found ahead of an act does not stay behind it, where less is found then. */
    private static void askedAgain() {
        HalfOaths x = Due.hills("oath go to 1;oath give;oath go to 1 not");
        Due.same("21: go, to 1", x.order(0, -1), 2);
        Due.same("21: just give, by the same object", x.order(1, -1), 0);
        Due.same("31: 0 and 2", x.pairs(-1), 2);
        Due.same("31: 2", x.pairs(0), 2);
        x.begin(0);
        x.begin(2);
        x.finish(0);
        x.finish(2);
        Due.same("23: both held", x.gainsay(0, 2), true);
        Due.same("24: one of both", x.peace(), 1);
        Due.same("25: one of both", x.quiet(), 1);
        x.retract(0);
        Due.same("23: one taken back", x.gainsay(0, 2), false);
        Due.same("24: one held", x.peace(), 4);
        Due.same("25: one held", x.quiet(), 0);
        x.repeat(0, 1);
        Due.same("21: told anew", x.order(0, -1), 0);
        Due.same("31: 0 and 1 now", x.pairs(-1), 1);
        Due.same("31: 1", x.pairs(0), 1);
        Due.same("31: none", x.pairs(2), -1);
        x.undo();
        Due.same("21: go, to 1 again", x.order(0, -1), 2);
        Due.same("31: 0 and 2 again", x.pairs(-1), 2);
        Due.same("31: none again", x.pairs(1), -1);
    }
}
