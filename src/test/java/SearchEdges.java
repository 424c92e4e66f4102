/** Sentences of promises 21 to 25, 31 and 32: ORDER, FENCE, GAINSAY, PEACE, QUIET, PAIRS and RESTS. */
final class SearchEdges {
    private SearchEdges() {
    }

    static void run() {
        units();
        order();
        fence();
        fenceRounded();
        gainsay();
        peace();
        quiet();
        asBits();
        pairs();
        rests();
        restsAlike();
    }

    private static void isOrder(String what, HalfOaths x, int person, int sure, int... units) {
        Due.same("sure, " + what, x.order(person, -1), sure);
        for (int k = 0; k < units.length; k++) {
            Due.same("place " + k + ", " + what, x.order(person, k), units[k]);
        }
        for (int k : new int[] {units.length, units.length + 1, 12, -2, -12, Integer.MIN_VALUE, Integer.MAX_VALUE}) {
            Due.same("place " + k + ", " + what, x.order(person, k), -1);
        }
    }

    private static void units() {
        Sentence.test(21, "UNITS of an OATH: its WORDS, those from an open to its own shut together as one.", () -> {
            HalfOaths x = Due.hills("oath open open sum 1 shut if 2 shut wed;oath open shut open shut go;oath open go shut;"
                + "oath open open open go shut shut shut go by 1 by 2 by 3 by 4", "weigh 9 if not empty");
            isOrder("wed first, the clause as one", x, 0, 16, 1, 0);
            isOrder("two clauses", x, 1, 11, 2, 0, 1);
            isOrder("one clause", x, 2, 0, 0);
            isOrder("twelve words, six units", x, 3, 11, 1, 0, 2, 3, 4, 5);
        });
        Sentence.test(21, "ORDER: the order of UNITS (at most 6, else none) by which SURE is the most "
            + "(of several the first: UNIT by UNIT, by numbers): SURE so; the UNIT that stands at the k-th place; none.", () -> {
            HalfOaths x = Due.hills("oath go;oath go go go go go go;oath go go go go go go go;oath by 1 by 2 by 3 by 4 by 5 go;"
                + "oath sum 1 sum 1 sum 1 sum 1 sum 1 give;oath open shut open shut open shut open shut open shut open shut");
            isOrder("one", x, 0, 2, 0);
            isOrder("six alike", x, 1, 2, 0, 1, 2, 3, 4, 5);
            for (int k : new int[] {-1, 0, 1, 5, 6, 7, -2}) {
                Due.same("seven, place " + k, x.order(2, k), -1);
            }
            isOrder("the last one first, then by numbers", x, 3, 2, 5, 0, 1, 2, 3, 4);
            isOrder("no order is better", x, 4, 0, 0, 1, 2, 3, 4, 5);
            isOrder("six clauses", x, 5, 0, 0, 1, 2, 3, 4, 5);
        });
    }

    private static void order() {
        Sentence.test(21, "ORDER: SURE so (k NONE), or the UNIT at the k-th place; NONE (also with more than 6 UNITS).", () -> {
            HalfOaths x = Due.hills("oath if 1 wed not;oath go by 1 by 1 by 1 by 1 by 1 by 1;oath not wed if 1 if 2");
            // wed, if, not: 9 7 3; wed, not, if: 9 4 3; whatever stands last, all weigh 3
            isOrder("of several the first", x, 0, 3, 1, 0, 2);
            for (int k = -2; k < 8; k++) {
                Due.same("seven units, place " + k, x.order(1, k), -1);
            }
            isOrder("of several the first", x, 2, 2, 1, 0, 2, 3);
            x.begin(0);
            x.finish(0);
            isOrder("whatever is said", x, 0, 3, 1, 0, 2);
            Due.text(x, "ease 7 if count > 1 and count < 3 and not turned");
            x.law();
            isOrder("by the law", x, 0, 3, 1, 2, 0);
            Due.text(x, "ease 2 if whole;weigh 1 if person > 1 and count < 2");
            x.law();
            isOrder("by what is whole", x, 0, 1, 1, 0, 2);
            isOrder("by what is whole", x, 2, 0, 0, 1, 2, 3);
        });
    }

    private static void fence() {
        Sentence.test(22, "FENCE of a person and Q (0 to 100): the fewest GUARDS (0 to 9) with which it is let go through all HOURS it needs "
            + "without being BROKEN IN ON (by a dog, too) by Q hundredths at least", () -> {
            HalfOaths x = Due.hills("oath go;oath go go breath 2 guards 9;oath go go go breath 2;noise 50");
            int[][] due = {{0, 0}, {49, 0}, {50, 0}, {51, 1}, {60, 1}, {61, 2}, {90, 4}, {91, 5}, {100, 5}};
            for (int[] row : due) {
                Due.same("one hour, " + row[0], x.fence(0, row[0]), row[1]);
                Due.same("one hour of two words, " + row[0], x.fence(1, row[0]), row[1]);
            }
            Due.same("two hours, 25", x.fence(2, 25), 0);
            Due.same("two hours, 26", x.fence(2, 26), 1);
            x.noise(100);
            Due.same("surely broken in on", x.fence(0, 0), 0);
            Due.same("one guard", x.fence(0, 1), 1);
            Due.same("nine guards", x.fence(0, 90), 9);
            x.noise(0);
            Due.same("no noise", x.fence(2, 100), 0);
        });
        Sentence.test(22, "FENCE; NONE. IllegalArgumentException: Q is none.", () -> {
            HalfOaths x = Due.hills("oath go;oath go go;noise 100");
            Due.same("nine are too few", x.fence(0, 91), -1);
            Due.same("nine are too few", x.fence(0, 100), -1);
            Due.same("for two hours", x.fence(1, 81), 9);
            Due.same("for two hours", x.fence(1, 82), -1);
            x.noise(90);
            Due.same("nine are enough", x.fence(1, 100), 9);
            for (int q : new int[] {101, 102, -1, Integer.MIN_VALUE, Integer.MAX_VALUE}) {
                Due.noNumber("q " + q, () -> x.fence(0, q));
            }
        });
    }

    private static void fenceRounded() {
        Sentence.test(22, "(10000 as hundredths of hundredths, rounded down at each HOUR): how many; none.", () -> {
            // 7602 if it were not rounded down before the end
            HalfOaths x = Due.hills("oath" + " go".repeat(9) + ";noise 3");
            Due.same("7599 behind nine hours", x.fence(0, 75), 0);
            Due.same("7599 behind nine hours", x.fence(0, 76), 1);
            HalfOaths y = Due.hills("oath" + " go".repeat(12) + ";noise 5");
            Due.same("5399 behind twelve hours", y.fence(0, 53), 0);
            Due.same("5399 behind twelve hours", y.fence(0, 54), 1);
        });
    }

    private static HalfOaths held(String text) {
        HalfOaths x = Due.hills(text);
        for (int person = 0; person < x.count(0); person++) {
            x.begin(person);
            x.finish(person);
        }
        return x;
    }

    private static void gainsay() {
        Sentence.test(23, "GAINSAY: two HELD READINGS with a verb, the same one, and some TOS in common, of which just one is turned.", () -> {
            HalfOaths x = held("oath go to 1 to 9;oath go to 9 to 2 not;oath go to 1 to 9;oath wed to 9 not;oath go to 3 not;oath to 9 not");
            boolean[] due = {false, true, false, false, false, false};
            for (int other = 1; other < 6; other++) {
                Due.same("0 and " + other, x.gainsay(0, other), due[other]);
                Due.same(other + " and 0", x.gainsay(other, 0), due[other]);
            }
            Due.same("both are turned", x.gainsay(1, 4), false);
            HalfOaths y = held("oath to 9;oath to 9 not;oath give to 0;oath give to 0 not;oath give;oath give not");
            Due.same("both without a verb", y.gainsay(0, 1), false);
            Due.same("to 0", y.gainsay(2, 3), true);
            Due.same("no tos at all", y.gainsay(4, 5), false);
        });
        Sentence.test(23, "GAINSAY (false of such as are not HELD). IllegalArgumentException: both are one.", () -> {
            HalfOaths x = Due.hills("oath go to 1;oath go to 1 not;noise 0");
            Due.same("both silent", x.gainsay(0, 1), false);
            x.begin(0);
            x.begin(1);
            x.hours(2);
            Due.same("both speak, one has finished", x.gainsay(0, 1), false);
            x.finish(1);
            Due.same("both held", x.gainsay(0, 1), true);
            x.retract(0);
            Due.same("one silent again", x.gainsay(1, 0), false);
            for (int person = 0; person < 2; person++) {
                int p = person;
                Due.noNumber("both are " + person, () -> x.gainsay(p, p));
            }
        });
    }

    private static void peace() {
        Sentence.test(24, "PEACE: the most HELD ones no two of which GAINSAY: of several the least as bits.", () -> {
            Due.same("nobody", new HalfOaths().peace(), 0);
            Due.same("nobody held", Due.hills("oath go;oath wed").peace(), 0);
            HalfOaths x = held("oath go to 1;oath go to 1 not;oath wed;oath go to 1;oath go to 1 not;oath sum 1");
            Due.same("of two and two the least", x.peace(), 1 + 4 + 8 + 32);
            x.retract(0);
            Due.same("two of three", x.peace(), 2 + 4 + 16 + 32);
            x.retract(1);
            Due.same("the least", x.peace(), 4 + 8 + 32);
            x.retract(3);
            Due.same("all that are held", x.peace(), 4 + 16 + 32);
            Due.same("six", held(Due.lines("oath go to 1", 6)).peace(), 63);
            Due.same("one of two", held("oath go to 1;oath go to 1 not").peace(), 1);
        });
    }

    private static void asBits() {
        Sentence.test(24, "PEACE, as bits.", () -> {
            HalfOaths x = held(Due.lines("oath go to 1", 6));
            Due.same("the last one is bit 5", x.peace(), 63);
            x.retract(0);
            Due.same("the first one is bit 0", x.peace(), 62);
        });
        Sentence.test(25, "QUIET, as bits.", () -> {
            HalfOaths x = held(Due.lines("oath go to 1", 5) + ";oath go to 1 not");
            Due.same("the last one is bit 5", x.quiet(), 32);
        });
        Sentence.test(32, "RESTS, as bits.", () -> {
            HalfOaths x = Due.hills("oath go;oath sum 1 wed;oath sum 1");
            Due.same("choice 0 is bit 0", x.rests(0), 1);
            Due.same("no choice", x.rests(1), 0);
            Due.same("choice 3 is bit 3", x.rests(2), 8);
        });
    }

    private static void quiet() {
        Sentence.test(25, "QUIET: the fewest HELD ones without whom none GAINSAY: of several the least as bits.", () -> {
            Due.same("nobody", new HalfOaths().quiet(), 0);
            Due.same("nobody held", Due.hills("oath go to 1;oath go to 1 not").quiet(), 0);
            Due.same("nobody gainsays", held(Due.lines("oath go to 1", 6)).quiet(), 0);
            Due.same("one of two", held("oath go to 1;oath go to 1 not").quiet(), 1);
            HalfOaths x = held("oath go to 1;oath go to 1 not;oath wed;oath go to 1;oath go to 1 not;oath sum 1");
            Due.same("of two and two the least", x.quiet(), 1 + 8);
            x.retract(0);
            Due.same("the fewest", x.quiet(), 8);
            x.retract(3);
            Due.same("none", x.quiet(), 0);
            HalfOaths y = held("oath go to 1 not;oath go to 2 not;oath go to 3 not;oath go to 1 to 2 to 3;oath go to 4;oath go to 4 not");
            Due.same("by whom most are gainsaid", y.quiet(), 8 + 16);
        });
    }

    private static void pairs() {
        Sentence.test(31, "PAIRS: PEOPLE put two by two, each in one such pair at most, so that WORDS, KIND and N, that are alike at like places "
            + "of both OATHS are together the most: how many; with whom one is in the first such way "
            + "(person by person, none being the least, then the others); none.", () -> {
            HalfOaths x = Due.hills("oath go go;oath go go;oath go go;oath go go");
            Due.same("two and two", x.pairs(-1), 4);
            int[] due = {1, 0, 3, 2};
            for (int person = 0; person < 4; person++) {
                Due.same("of ways alike the first, " + person, x.pairs(person), due[person]);
            }
            HalfOaths three = Due.hills("oath go;oath go;oath go");
            Due.same("one and one, one alone", three.pairs(-1), 1);
            Due.same("none is the least", three.pairs(0), -1);
            Due.same("then the others", three.pairs(1), 2);
            HalfOaths far = Due.hills("oath go;oath by 1 go;oath by 2;oath go by 2");
            Due.same("alike at like places alone", far.pairs(-1), 1);
            Due.same("0 and 3", far.pairs(3), 0);
            Due.same("nothing is gained by a pair", far.pairs(1), -1);
            Due.same("behind the last word nothing is alike", Due.hills("oath go;oath go give give").pairs(-1), 1);
            HalfOaths best = Due.hills("oath go go go;oath go go go go;oath go go go go;oath go");
            Due.same("not the first two", best.pairs(-1), 5);
            Due.same("the first with the last", best.pairs(0), 3);
        });
        Sentence.test(31, "PAIRS: how many (person NONE), or with whom one is; NONE.", () -> {
            Due.same("nobody", new HalfOaths().pairs(-1), 0);
            HalfOaths x = Due.hills("oath go");
            Due.same("one alone", x.pairs(-1), 0);
            Due.same("one alone", x.pairs(0), -1);
            for (int person : new int[] {1, -2, 6, Integer.MIN_VALUE, Integer.MAX_VALUE}) {
                Due.outside("person " + person, () -> x.pairs(person));
            }
            HalfOaths six = Due.hills(Due.lines("oath go" + " by1".repeat(11), 6));
            Due.same("six", six.pairs(-1), 36);
            Due.same("the last one", six.pairs(5), 4);
        });
    }

    private static void rests() {
        Sentence.test(32, "RESTS of a person: the speaker goes on (0) or stops (1), unseen, the rival coughs (0) or waits (1): "
            + "going on and coughed at he has SURE, the rival 3; going on else WEIGHT of all his WORDS, the rival 0; "
            + "stopping and coughed at 2, the rival 0 less GUARDS; both still 1, the rival 1: "
            + "choices (2 times his and the rival's) from which neither would have more by its other one: as bits.", () -> {
            // sure and all: 3 4, 0 0, 0 9, 9 9, 0 1, 0 0
            HalfOaths x = Due.hills("oath go by 9;oath sum 1;oath sum 1 wed;oath wed guards 9;oath give sum 1;oath go by 9",
                "ease 9 if person > 4;weigh 1 if person < 1");
            int[] due = {1, 8, 0, 1, 8, 8};
            for (int person = 0; person < 6; person++) {
                Due.same("of " + person, x.rests(person), due[person]);
            }
        });
    }

    private static void restsAlike() {
        Sentence.test(32, "choices (2 times his and the rival's) from which neither would have more by its other one: as bits.", () -> {
            HalfOaths x = Due.hills("oath go;oath give sum 1 sum 0;oath go by 9;oath not go by 9");
            Due.same("sure 2 is not less than 2", x.rests(0), 1);
            Due.same("all 1 is not more than 1", x.rests(1), 8);
            Due.same("sure 2 is not less than 2, all 3", x.rests(2), 1);
            Due.same("sure 0, all 1 is not more than 1", x.rests(3), 8);
            Due.text(x, "ease 1 if person < 1 and whole");
            x.law();
            Due.same("sure 1 is less than 2, all 1 is not more than 1", x.rests(0), 8);
            Due.text(x, "weigh 1 if person > 2 and whole");
            x.law();
            Due.same("sure 0 is less than 2, all 2 are more than 1", x.rests(3), 0);
        });
    }
}
