/** Sentences of promises 7 to 11: what is told of people, WORDS, READINGS, what they HOLD, and MODES. */
final class ReadingEdges {
    private ReadingEdges() {
    }

    static void run() {
        person();
        worstAndBest();
        hoursGoingShare();
        word();
        at();
        wordsOfClauses();
        laying();
        openClauses();
        facts();
        weights();
        bases();
        heard();
        holds();
        modes();
    }

    private static void tells(String what, HalfOaths x, int person, int k, int... due) {
        for (int i = 0; i < due.length; i++) {
            Due.same(what + ", " + k + " words, told " + i, x.reading(person, k, i), due[i]);
        }
    }

    private static void person() {
        Sentence.test(7, "Of a person what 0 how many WORDS, 1 BREATH, 2 GUARDS, 3 0 SILENT, 1 SPEAKING, 2 HELD, "
            + "4 how many WORDS are SAID (SPEAKING) or COUNT (HELD; 0 SILENT), 5 WORST, 6 BEST, 7 SURE, 8 HOURS it NEEDS, "
            + "9 GOING, as bits, 10 SHARE.", () -> {
            HalfOaths x = Due.hills("oath wed sum 5;oath go if 1 by 3 by 2 by 4 breath 2 guards 3;noise 0");
            int[] silent = {5, 2, 3, 0, 0, 1, 4, 2, 3, 0, 0};
            for (int what = 0; what <= 10; what++) {
                Due.same("silent, " + what, x.person(1, what), silent[what]);
            }
            x.begin(1);
            x.hours(1);
            int[] speaking = {5, 2, 3, 1, 2, 1, 4, 2, 3, 2, 0};
            for (int what = 0; what <= 10; what++) {
                Due.same("speaking, " + what, x.person(1, what), speaking[what]);
            }
            x.stop(1, 2);
            int[] held = {5, 2, 3, 2, 1, 1, 4, 2, 3, 0, 100};
            for (int what = 0; what <= 10; what++) {
                Due.same("held, " + what, x.person(1, what), held[what]);
            }
            x.retract(1);
            Due.same("silent again", x.person(1, 4), 0);
        });
        Sentence.test(7, "NoSuchElementException: another what.", () -> {
            HalfOaths x = Due.hills("oath go");
            for (int what : new int[] {11, 12, -1, Integer.MIN_VALUE, Integer.MAX_VALUE}) {
                Due.noThing("what " + what, () -> x.person(0, what));
            }
            Due.same("the last what", x.person(0, 10), 0);
        });
        Sentence.test(7, "SILENT (at first), SPEAKING (so many WORDS SAID), or HELD (so many WORDS COUNT, 0 to as many as there are).", () -> {
            HalfOaths x = Due.hills("oath go by 1 by 2;noise 0");
            Due.same("at first", x.person(0, 3), 0);
            for (int said = 0; said < 3; said++) {
                x.begin(0);
                if (said > 0) {
                    x.hours(said);
                }
                Due.same("said", x.person(0, 4), said);
                Due.same("speaking", x.person(0, 3), 1);
                x.stop(0, 0);
                Due.same("counts", x.person(0, 4), said);
                Due.same("held", x.person(0, 3), 2);
                x.retract(0);
            }
            x.begin(0);
            x.finish(0);
            Due.same("as many as there are", x.person(0, 4), 3);
        });
    }

    private static void worstAndBest() {
        Sentence.test(7, "WORST: the K (1 at least) with the least WEIGHT of AT; BEST: with the most (of several the least, each).", () -> {
            // weights behind 1, 2, .. words: 2 | 0 2 2 | 9 7 7 5 5 | 2 9 9 4 | 0 0 0 | 9 7 7
            HalfOaths x = Due.hills("oath go;oath sum 1 go if 2;oath wed if 1 sum 1 if 2 to 1;oath go by 3 by 5 not;oath sum 1 sum 2 sum 3;oath wed if 1 if 1");
            int[][] due = {{1, 1}, {1, 2}, {4, 1}, {1, 2}, {1, 1}, {2, 1}};
            for (int person = 0; person < 6; person++) {
                Due.same("worst of " + person, x.person(person, 5), due[person][0]);
                Due.same("best of " + person, x.person(person, 6), due[person][1]);
            }
            HalfOaths y = Due.hills("oath sum 1 go by 0 by 0 by 0 by 0 by 0 by 0 by 0 by 0 by 0 by 0", "weigh 9 if whole;ease 20 if count > 10 and not whole");
            Due.same("the last word of twelve", y.person(0, 6), 12);
            Due.same("no word is not one of them", y.person(0, 5), 1);
        });
        Sentence.test(7, "SURE: the least WEIGHT of AT of any K of 1 at least.", () -> {
            HalfOaths x = Due.hills("oath go;oath sum 1 go;oath wed if 1 if 2 not;oath go by 3 by 2;oath wed sum 1;oath wed sum 1 if 5");
            int[] due = {2, 0, 2, 2, 9, 7};
            for (int person = 0; person < 6; person++) {
                Due.same("of " + person, x.person(person, 7), due[person]);
            }
        });
    }

    private static void hoursGoingShare() {
        Sentence.test(7, "HOURS NEED of a person: how many HOURS it needs from SILENT to FINISHED.", () -> {
            for (int words = 1; words <= 12; words++) {
                for (int breath = 1; breath <= 9; breath++) {
                    HalfOaths x = Due.hills("oath" + " go".repeat(words) + " breath " + breath + ";noise 0");
                    x.begin(0);
                    int need = 1;
                    while (need < 13 && x.hours(1) == 0) {
                        need++;
                    }
                    Due.same(words + " words, breath " + breath, x.person(0, 8), need);
                }
            }
        });
        Sentence.test(7, "GOING of a person, SPEAKING: PEOPLE of whose OATH the first WORDS, as many as it has SAID, are as its own "
            + "(KIND and N), as bits (it itself, too); 0 of others.", () -> {
            HalfOaths x = Due.hills("oath go by 1 by 2 by 3;oath wed;oath go by 1;oath go by 2;oath go by 1 by 2 if 3;oath go by 1 to 2;noise 0");
            Due.same("silent", x.person(0, 9), 0);
            x.begin(0);
            int[] due = {63, 61, 53, 17};
            for (int said = 0; said < 4; said++) {
                Due.same("said " + said, x.person(0, 9), due[said]);
                Due.same("another one", x.person(2, 9), 0);
                x.hours(1);
            }
            Due.same("held", x.person(0, 9), 0);
            HalfOaths y = Due.hills("oath go give give;oath go;oath go give;oath go give go;noise 0");
            y.begin(0);
            y.hours(2);
            Due.same("one that ends ahead has no such words", y.person(0, 9), 13);
        });
        Sentence.test(7, "SHARE of a person of WEIGHT of HOLDS of all, in hundredths, rounded down (0 without).", () -> {
            HalfOaths x = Due.hills("oath go;oath give sum 1;oath wed;oath sum 1");
            Due.same("nobody holds any", x.person(0, 10), 0);
            x.begin(3);
            x.finish(3);
            Due.same("of no weight at all", x.person(3, 10), 0);
            x.begin(0);
            x.finish(0);
            Due.same("all", x.person(0, 10), 100);
            Due.same("nothing", x.person(3, 10), 0);
            x.begin(1);
            Due.same("who speaks has none", x.person(1, 10), 0);
            x.finish(1);
            Due.same("66.6", x.person(0, 10), 66);
            Due.same("33.3", x.person(1, 10), 33);
            Due.same("who is silent has none", x.person(2, 10), 0);
        });
    }

    private static void word() {
        Sentence.test(8, "Of the k-th WORD of an OATH the KIND (n false), or N (0 of a KIND without); NONE without.", () -> {
            HalfOaths x = Due.hills("oath sum 7;oath give go wed sum 9 if 8 not by 7 to 6 open shut sum 0 to 5");
            int[] kinds = {0, 1, 2, 3, 4, 5, 6, 7, 8, 9, 3, 7};
            int[] numbers = {0, 0, 0, 9, 8, 0, 7, 6, 0, 0, 0, 5};
            for (int k = 0; k < 12; k++) {
                Due.same("kind " + k, x.word(1, k, false), kinds[k]);
                Due.same("n " + k, x.word(1, k, true), numbers[k]);
            }
            for (int k : new int[] {1, 2, 11, 12, -1, -12, Integer.MIN_VALUE, Integer.MAX_VALUE}) {
                Due.same("none, kind " + k, x.word(0, k, false), -1);
                Due.same("none, n " + k, x.word(0, k, true), -1);
            }
            Due.same("behind twelve", x.word(1, 12, false), -1);
            Due.same("ahead of the second person's", x.word(1, -1, true), -1);
        });
    }

    private static void at() {
        Sentence.test(9, "AT of a person and K (0 to as many WORDS as there are): the READING of its OATH, if K WORDS COUNT.", () -> {
            HalfOaths x = Due.hills("oath go;oath sum 1 sum 2 sum 4 sum 8 sum 1 sum 2 sum 4 sum 8 sum 1 sum 2 sum 4 sum 8");
            int sum = 0;
            for (int k = 0; k <= 12; k++) {
                Due.same("sum of " + k, x.reading(1, k, 1), sum);
                sum += 1 << k % 4;
            }
            Due.same("none", x.reading(0, 0, 0), 0);
            Due.same("all", x.reading(0, 1, 0), 2);
        });
        Sentence.test(9, "IllegalArgumentException: K is none; NoSuchElementException: another what.", () -> {
            HalfOaths x = Due.hills("oath go sum 1;oath go");
            for (int k : new int[] {3, 4, 12, 13, -1, Integer.MIN_VALUE, Integer.MAX_VALUE}) {
                Due.noNumber("k " + k, () -> x.reading(0, k, 0));
                Due.noNumber("k " + k, () -> x.reading(0, k, 8));
            }
            Due.noNumber("two of one", () -> x.reading(1, 2, 0));
            for (int what : new int[] {8, 9, -1, Integer.MIN_VALUE, Integer.MAX_VALUE}) {
                Due.noThing("what " + what, () -> x.reading(0, 2, what));
                Due.noThing("what " + what, () -> x.reading(0, 0, what));
            }
            Due.same("the last what", x.reading(0, 2, 7), 1);
        });
        Sentence.test(9, "AT: what 0 the verb (0 none, 1 give, 2 go, 3 wed), 1 SUM, 2 IFS, as bits, 3 BY, 4 TOS, as bits, 5 1 if turned, 6 WEIGHT, 7 HEARD.", () -> {
            HalfOaths x = Due.hills("oath sum 1;oath give if 0 if 9 to 0 to 9 by 0 not;oath go;oath wed");
            tells("none", x, 0, 1, 0, 1, 0, 10, 0, 0, 0, 1);
            tells("give", x, 1, 7, 1, 0, 513, 0, 513, 1, 2, 1);
            tells("go", x, 2, 1, 2, 0, 0, 10, 0, 0, 2, 1);
            tells("wed", x, 3, 1, 3, 0, 0, 10, 0, 0, 9, 1);
        });
        Sentence.test(9, "a CLAUSE has at first no verb, SUM 0, no IFS, BY 10, no TOS, is not turned.", () -> {
            HalfOaths x = Due.hills("oath give;oath open shut go;mode 0 1");
            tells("of no words", x, 0, 0, 0, 0, 0, 10, 0, 0, 0, 1);
            tells("a clause with nothing in it", x, 1, 1, 0, 0, 0, 10, 0, 0, 0, 1);
            tells("a clause with nothing in it", x, 1, 2, 0, 0, 0, 10, 0, 0, 0, 1);
        });
    }

    private static void wordsOfClauses() {
        Sentence.test(9, "a verb: the verb, if it has none yet;", () -> {
            HalfOaths x = Due.hills("oath give go wed;oath wed give;oath open go wed shut give");
            Due.same("the first of three", x.reading(0, 3, 0), 1);
            Due.same("the first of two", x.reading(1, 2, 0), 3);
            Due.same("the first in a clause", x.reading(2, 5, 0), 2);
        });
        Sentence.test(9, "sum: SUM is N more (99 at most);", () -> {
            HalfOaths x = Due.hills("oath give" + " sum 9".repeat(11) + ";oath" + " sum 9".repeat(10) + " sum 8 sum 9;oath" + " sum 9".repeat(12));
            Due.same("99", x.reading(0, 12, 1), 99);
            Due.same("98", x.reading(1, 11, 1), 98);
            Due.same("107", x.reading(1, 12, 1), 99);
            Due.same("99", x.reading(2, 11, 1), 99);
            Due.same("108", x.reading(2, 12, 1), 99);
            Due.same("a weight of 99", x.reading(0, 12, 6), 99);
        });
        Sentence.test(9, "if: N is one of IFS; not: it is turned, or not any more; by: BY is N, if that is less; to: N is one of TOS.", () -> {
            HalfOaths x = Due.hills("oath if 0 if 9 if 0 to 9 to 0 to 9 by 9 by 9 by 0 by 1;oath not not not not;"
                + "oath if 0 if 1 if 2 if 3 if 4 if 5 if 6 if 7 if 8 if 9;oath by 1 by 1 by 2");
            tells("twice is once", x, 0, 6, 0, 0, 513, 10, 513);
            int[] by = {9, 9, 0, 0};
            for (int i = 0; i < 4; i++) {
                Due.same("by " + i, x.reading(0, 7 + i, 3), by[i]);
                Due.same("turned " + i, x.reading(1, i + 1, 5), (i + 1) % 2);
            }
            Due.same("all ifs", x.reading(2, 10, 2), 1023);
            Due.same("the lesser by", x.reading(3, 3, 3), 1);
        });
    }

    private static void laying() {
        Sentence.test(9, "shut: what is in that CLAUSE is LAID into the one around.", () -> {
            HalfOaths x = Due.hills("oath open open open go sum 1 shut sum 2 shut sum 4 shut sum 8;oath open shut");
            int[] sums = {0, 0, 0, 0, 0, 0, 0, 0, 0, 0, 7, 15};
            for (int k = 1; k <= 11; k++) {
                Due.same("sum of " + k, x.reading(0, k, 1), sums[k]);
            }
            Due.same("the verb of the innermost", x.reading(0, 10, 0), 2);
            tells("of nothing", x, 1, 2, 0, 0, 0, 10, 0, 0, 0, 1);
        });
        Sentence.test(9, "To LAY: the verb, if that has none; SUM together (99 at most); IFS, TOS together; the lesser BY; "
            + "turned: it is turned, if just one of both is.", () -> {
            HalfOaths x = Due.hills("oath go open give shut;oath open give shut go;oath if 1 to 1 by 5 sum 3 open if 0 if 2 to 2 to 3 by 5 sum 4 shut;"
                + "oath open by 4 shut open by 6 shut;oath" + " sum 9".repeat(5) + " open" + " sum 9".repeat(5) + " shut");
            Due.same("a verb stays", x.reading(0, 4, 0), 2);
            Due.same("a verb is laid", x.reading(1, 3, 0), 1);
            Due.same("and stays", x.reading(1, 4, 0), 1);
            tells("together", x, 2, 12, 0, 7, 7, 5, 14, 0);
            Due.same("the lesser by", x.reading(3, 3, 3), 4);
            Due.same("the lesser by", x.reading(3, 6, 3), 4);
            Due.same("90", x.reading(4, 12, 1), 90);
            int[] turned = {0, 1, 1, 0};
            for (int i = 0; i < 4; i++) {
                HalfOaths y = Due.hills("oath" + (i / 2 == 1 ? " not" : "") + " open" + (i % 2 == 1 ? " not" : "") + " shut");
                Due.same("turned " + i, y.reading(0, y.person(0, 0), 5), turned[i]);
            }
        });
    }

    private static void openClauses() {
        Sentence.test(9, "Behind the last WORD that COUNTS those CLAUSES that are open yet are done with from the innermost one on "
            + "(DISTANCE 0, 1, ..; the OATH itself is none of these)", () -> {
            HalfOaths x = Due.hills("oath go sum 1 open sum 2 open sum 4 open sum 8 shut shut shut;mode 3 2");
            int[][] due = {{0, 0, 0, 1}, {1, 0, 0, 1}, {0, 1, 0, 1}, {0, 0, 1, 3}, {1, 0, 1, 3}, {0, 1, 1, 7}, {1, 1, 1, 15}};
            for (int[] row : due) {
                for (int distance = 0; distance < 3; distance++) {
                    x.turn(distance, row[distance]);
                }
                Due.same("three open, " + row[0] + row[1] + row[2], x.reading(0, 8, 1), row[3]);
                Due.same("one open", x.reading(0, 10, 1), row[0] == 1 ? 15 : 1);
                Due.same("two open", x.reading(0, 9, 1), row[1] == 0 ? 1 : row[0] == 0 ? 3 : 15);
                Due.same("none open", x.reading(0, 11, 1), 15);
                Due.same("none open yet", x.reading(0, 2, 1), 1);
            }
            x.turn(0, 2);
            Due.same("the oath itself is not turned", x.reading(0, 2, 5), 0);
            x.turn(0, 0);
            Due.same("nor dropped", x.reading(0, 2, 0), 2);
        });
        Sentence.test(9, "by MODE of the DISTANCE it is dropped (nothing of it is LAID), LAID as it is, or LAID, being turned the other way ahead of that.", () -> {
            HalfOaths x = Due.hills("oath open go sum 3 if 4 by 5 to 6 not shut;oath open wed sum 1 shut");
            tells("dropped", x, 0, 7, 0, 0, 0, 10, 0, 0, 0, 1);
            x.turn(0, 1);
            tells("laid as it is", x, 0, 7, 2, 3, 16, 5, 64, 1, 3, 1);
            x.turn(0, 2);
            tells("laid, turned the other way", x, 0, 7, 2, 3, 16, 5, 64, 0, 7, 1);
            Due.same("turned the other way", x.reading(1, 3, 5), 1);
            Due.same("behind its shut nothing is done with", x.reading(1, 4, 5), 0);
            Due.same("nor turned there", x.reading(0, 8, 5), 1);
        });
        Sentence.test(9, "open: a CLAUSE within it begins.", () -> {
            HalfOaths x = Due.hills("oath go open wed sum 1 shut open sum 2 shut", "hear 1 if count > 5");
            Due.same("it is open", x.reading(0, 4, 1), 0);
            Due.same("it is shut", x.reading(0, 5, 1), 1);
            x.turn(0, 1);
            Due.same("a second one begins with nothing", x.reading(0, 6, 1), 1);
            Due.same("open and shut are words", x.reading(0, 6, 7), 2);
            Due.same("and the second one is laid", x.reading(0, 8, 1), 3);
        });
    }

    private static void holdsFor(HalfOaths x, int person, int k, boolean due, String condition) {
        Due.text(x, "hear 1 if " + condition);
        x.law();
        Due.same("of " + person + " behind " + k + ": " + condition, x.reading(person, k, 7) == 2, due);
    }

    private static void facts() {
        Sentence.test(9, "Of a READING: person: whose; verb: 0 none, 1 give, 2 go, 3 wed; sum: its SUM; ifs, tos: how many of its IFS, TOS; "
            + "by: its BY (10: none); count: how many WORDS; whole: these are all; turned: it is; empty: it has no verb.", () -> {
            HalfOaths x = Due.hills("oath if 1 if 2 if 1 to 3 to 3 by 0 not;oath give;oath go;oath wed;oath go;oath" + " sum 9".repeat(12));
            holdsFor(x, 0, 7, true, "person < 1 and verb < 1 and ifs > 1 and ifs < 3 and tos > 0 and tos < 2 and by < 1");
            holdsFor(x, 0, 7, true, "count > 6 and count < 8 and whole and turned and empty");
            holdsFor(x, 0, 6, false, "whole or turned");
            holdsFor(x, 0, 0, true, "count < 1 and by > 9 and by < 11 and empty and not whole and not turned");
            for (int person = 1; person < 4; person++) {
                holdsFor(x, person, 1, true, "verb > " + (person - 1) + " and verb < " + (person + 1) + " and not empty and by > 9");
                holdsFor(x, person, 0, true, "verb < 1 and empty and not whole");
            }
            holdsFor(x, 5, 12, true, "person > 4 and person < 6 and sum > 98 and sum < 100 and count > 11 and count < 13");
            holdsFor(x, 5, 11, false, "whole");
        });
    }

    private static void weights() {
        Sentence.test(9, "WEIGHT of a READING: 0 if it is empty, else its BASE, and the sum of N of all weigh LINES that hold, "
            + "less that of all ease LINES (0 at least).", () -> {
            HalfOaths x = Due.hills("oath sum 5 go");
            Due.same("without a law", x.reading(0, 2, 6), 2);
            String[] laws = {"weigh 5", "ease 1", "ease 2", "ease 3", "ease 7;weigh 6", "ease 6;weigh 1;weigh 3;ease 1", Due.lines("weigh 40", 12),
                Due.lines("ease 40", 12), "weigh 5 if empty", "weigh 5 if whole;weigh 6 if not whole;ease 40 if empty"};
            int[] due = {7, 1, 0, 0, 1, 0, 482, 0, 2, 7};
            for (int i = 0; i < laws.length; i++) {
                Due.text(x, laws[i]);
                x.law();
                Due.same(laws[i], x.reading(0, 2, 6), due[i]);
                Due.same("empty, " + laws[i], x.reading(0, 1, 6), 0);
                Due.same("of no words, " + laws[i], x.reading(0, 0, 6), 0);
            }
        });
    }

    private static void bases() {
        Sentence.test(9, "BASE: give: SUM and 2 for each of TOS; go: 12 less BY; wed: 9, less 2 for each of IFS "
            + "(0 at least, all; of one that is turned half of that, rounded down).", () -> {
            HalfOaths x = Due.hills("oath give sum 0 to 1 to 1 to 2 sum 3 not not;oath go by 9 by 1 by 0 not;"
                + "oath wed if 1 if 1 if 2 if 3 if 4 if 5 if 6 not;oath not wed if 1 if 2 if 3 if 4 if 5;oath not give sum 1 to 0;oath not give to 1 sum 8 sum 9");
            int[][] due = {{0, 0, 0, 2, 2, 4, 7, 3, 7}, {0, 2, 3, 11, 12, 6}, {0, 9, 7, 7, 5, 3, 1, 0, 0, 0},
                {0, 0, 4, 3, 2, 1, 0, 0}, {0, 0, 0, 0, 1}, {0, 0, 0, 1, 5, 9}};
            for (int person = 0; person < due.length; person++) {
                for (int k = 0; k < due[person].length; k++) {
                    Due.same("of " + person + " behind " + k, x.reading(person, k, 6), due[person][k]);
                }
            }
            Due.text(x, "weigh 5");
            x.law();
            Due.same("0 at least, and 5", x.reading(2, 8, 6), 5);
            Due.same("half of 0 at least, and 5", x.reading(2, 9, 6), 5);
            Due.same("half of the base alone", x.reading(1, 5, 6), 11);
        });
    }

    private static void heard() {
        Sentence.test(9, "HEARD: 1, and the sum of N of all hear LINES that hold (of an empty READING, too).", () -> {
            HalfOaths x = Due.hills("oath sum 1 go");
            Due.same("without a law", x.reading(0, 2, 7), 1);
            Due.same("without a law, of no words", x.reading(0, 0, 7), 1);
            String[] laws = {"hear 0", "hear 3;weigh 9;hear 4;ease 9", "hear 3 if empty", "hear 3 if not empty", Due.lines("hear 40", 12), "weigh 3"};
            int[] due = {1, 8, 1, 4, 481, 1};
            int[] dueOfNone = {1, 8, 4, 1, 481, 1};
            for (int i = 0; i < laws.length; i++) {
                Due.text(x, laws[i]);
                x.law();
                Due.same(laws[i], x.reading(0, 2, 7), due[i]);
                Due.same("empty, " + laws[i], x.reading(0, 1, 7), dueOfNone[i]);
                Due.same("of no words, " + laws[i], x.reading(0, 0, 7), dueOfNone[i]);
            }
        });
        Sentence.test(4, "(EARS that one tells are so many already heard.)", () -> {
            HalfOaths x = Due.hills("oath go;noise 0;ears 7", "hear 4");
            x.begin(0);
            x.hours(1);
            Due.same("seven, and five more", x.count(5), 12);
            Due.text(x, "ears 0");
            x.hills();
            Due.same("none", x.count(5), 0);
        });
    }

    private static void holds() {
        Sentence.test(10, "HOLDS of a person: the READING that is HELD (of one not HELD that of no WORDS: WEIGHT 0).", () -> {
            HalfOaths x = Due.hills("oath go by 1 if 2;noise 0", "weigh 5;hear 3 if empty");
            int[] none = {0, 0, 0, 10, 0, 0, 0, 4};
            int[] two = {2, 0, 0, 1, 0, 0, 16, 1};
            for (int what = 0; what < 8; what++) {
                Due.same("silent, " + what, x.hold(0, what), none[what]);
            }
            x.begin(0);
            x.hours(2);
            for (int what = 0; what < 8; what++) {
                Due.same("speaking, " + what, x.hold(0, what), none[what]);
            }
            x.stop(0, 0);
            for (int what = 0; what < 8; what++) {
                Due.same("held, " + what, x.hold(0, what), two[what]);
            }
            x.retract(0);
            for (int what = 0; what < 8; what++) {
                Due.same("taken back, " + what, x.hold(0, what), none[what]);
            }
            x.begin(0);
            x.stop(0, 0);
            Due.same("held with none", x.hold(0, 6), 0);
            x.retract(0);
            x.begin(0);
            x.finish(0);
            Due.same("held with all", x.hold(0, 2), 4);
        });
        Sentence.test(10, "HOLDS: what as of AT. NoSuchElementException: another what.", () -> {
            HalfOaths x = Due.hills("oath give sum 2 if 3 to 4 not");
            x.begin(0);
            x.finish(0);
            for (int what = 0; what < 8; what++) {
                Due.same("what " + what, x.hold(0, what), x.reading(0, 5, what));
            }
            for (int what : new int[] {8, -1, Integer.MIN_VALUE, Integer.MAX_VALUE}) {
                Due.noThing("what " + what, () -> x.hold(0, what));
            }
        });
    }

    private static void modes() {
        Sentence.test(11, "MODES: of each DISTANCE 0 to 3: 0 dropped, 1 kept, 2 turned (0 all at first).", () -> {
            HalfOaths x = new HalfOaths();
            for (int distance = 0; distance < 4; distance++) {
                Due.same("at first, " + distance, x.mode(distance), 0);
            }
            HalfOaths y = Due.hills("oath open go shut;mode 0 1;mode 1 2;mode 3 2");
            int[] due = {1, 2, 0, 2};
            for (int distance = 0; distance < 4; distance++) {
                Due.same("told, " + distance, y.mode(distance), due[distance]);
            }
            int[] verbs = {0, 2, 2};
            for (int mode = 0; mode < 3; mode++) {
                y.turn(0, mode);
                Due.same("verb, " + mode, y.reading(0, 2, 0), verbs[mode]);
                Due.same("turned, " + mode, y.reading(0, 2, 5), mode / 2);
            }
        });
        Sentence.test(11, "MODE of a DISTANCE.", () -> {
            HalfOaths x = Due.hills("oath go");
            for (int distance : new int[] {4, 5, -1, Integer.MIN_VALUE, Integer.MAX_VALUE}) {
                Due.outside("distance " + distance, () -> x.mode(distance));
            }
        });
    }
}
