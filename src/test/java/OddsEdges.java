/** Sentences of promises 33 to 38: ODDS, LONGEST and its like, sets of people, TWINS, TRIAL and SPAN. */
final class OddsEdges {
    private OddsEdges() {
    }

    static void run() {
        odds();
        oddsRounded();
        most();
        which();
        twins();
        twinsTold();
        trial();
        trialOfNone();
        span();
    }

    private static void odds() {
        Sentence.test(33, "ODDS of N HOURS (0 to 4): that of all that SPEAK nobody is BROKEN IN ON in N HOURS (by a dog, too), "
            + "each by NOISE less 10 times its GUARDS (0 at least), in 10000", () -> {
            HalfOaths x = Due.hills("oath go;oath go guards 2;oath go guards 9;oath go;noise 50");
            Due.same("nobody speaks", x.odds(4), 10000);
            x.begin(2);
            Due.same("more guards than noise", x.odds(4), 10000);
            x.begin(1);
            int[] one = {10000, 7000, 4900, 3430, 2401};
            for (int n = 0; n <= 4; n++) {
                Due.same("one of two guards, " + n + " hours", x.odds(n), one[n]);
            }
            x.begin(0);
            int[] two = {10000, 3500, 1225, 428, 149};
            for (int n = 0; n <= 4; n++) {
                Due.same("one of none, too, " + n + " hours", x.odds(n), two[n]);
            }
            x.begin(3);
            x.finish(3);
            Due.same("not of one held", x.odds(1), 3500);
            x.noise(100);
            Due.same("surely", x.odds(1), 0);
            Due.same("in no hour", x.odds(0), 10000);
            x.noise(0);
            Due.same("no noise", x.odds(4), 10000);
        });
        Sentence.test(33, "ODDS. IllegalArgumentException: N is none.", () -> {
            HalfOaths x = Due.hills("oath go");
            for (int n : new int[] {5, 6, -1, Integer.MIN_VALUE, Integer.MAX_VALUE}) {
                Due.noNumber("n " + n, () -> x.odds(n));
            }
            Due.same("0", x.odds(0), 10000);
            Due.same("4", x.odds(4), 10000);
        });
    }

    private static void oddsRounded() {
        Sentence.test(33, "rounded down at each one of each HOUR.", () -> {
            // 6700, 5159, 3456.53, 2661.12; 1782.87 of 2661, 1372.14; 919.24, 707.63
            HalfOaths x = Due.hills("oath go;oath go guards 1;noise 33");
            x.begin(0);
            x.begin(1);
            int[] due = {10000, 5159, 2661, 1372, 707};
            for (int n = 0; n <= 4; n++) {
                Due.same(n + " hours", x.odds(n), due[n]);
            }
            // 9700, 9409, 9126.73, 8852.22, 8586.44, 8328.42 (8585.., 8327.. of what is rounded down)
            HalfOaths y = Due.hills("oath go;oath go;oath go;noise 3");
            y.begin(0);
            y.begin(1);
            y.begin(2);
            int odds = 10000;
            for (int n = 1; n <= 4; n++) {
                for (int person = 0; person < 3; person++) {
                    odds = odds * 97 / 100;
                }
                Due.same("three, " + n + " hours", y.odds(n), odds);
            }
        });
    }

    private static void most() {
        Sentence.test(34, "LONGEST (by WORDS), HEAVIEST (by WEIGHT of HOLDS), BEST GUARDED: (of several the least; none, each).", () -> {
            for (int what = 0; what < 3; what++) {
                Due.same("nobody, " + what, new HalfOaths().most(what), -1);
                Due.same("one, " + what, Due.hills("oath sum 1").most(what), 0);
                Due.same("all alike, " + what, Due.hills(Due.lines("oath go", 6)).most(what), 0);
            }
            HalfOaths x = Due.hills("oath go;oath go by 1 guards 1;oath wed sum 1 guards 9;oath wed guards 9");
            Due.same("longest, of two", x.most(0), 1);
            Due.same("best guarded, of two", x.most(2), 2);
            Due.same("nobody is held", x.most(1), 0);
            x.begin(3);
            Due.same("who speaks holds nothing", x.most(1), 0);
            x.finish(3);
            Due.same("heaviest", x.most(1), 3);
            x.begin(2);
            x.finish(2);
            Due.same("heaviest, of two", x.most(1), 2);
        });
        Sentence.test(34, "LONGEST (what 0), HEAVIEST (1), BEST GUARDED (2); NONE. NoSuchElementException: another what.", () -> {
            HalfOaths x = Due.hills("oath go");
            for (int what : new int[] {3, 4, -1, Integer.MIN_VALUE, Integer.MAX_VALUE}) {
                Due.noThing("what " + what, () -> x.most(what));
                Due.noThing("of nobody, what " + what, () -> new HalfOaths().most(what));
            }
        });
    }

    private static void which() {
        Sentence.test(35, "SILENT ones (what 0), SPEAKING ones (1), HELD ones (2), as bits. NoSuchElementException: another what.", () -> {
            HalfOaths x = Due.hills(Due.lines("oath go", 6));
            Due.same("all are silent", x.which(0), 63);
            Due.same("nobody speaks", x.which(1), 0);
            Due.same("nobody is held", x.which(2), 0);
            for (int person = 0; person < 6; person++) {
                x.begin(person);
            }
            Due.same("all speak", x.which(1), 63);
            Due.same("nobody is silent", x.which(0), 0);
            x.finish(5);
            x.finish(0);
            Due.same("two are held", x.which(2), 33);
            Due.same("four speak", x.which(1), 30);
            for (int what : new int[] {3, 4, -1, Integer.MIN_VALUE, Integer.MAX_VALUE}) {
                Due.noThing("what " + what, () -> x.which(what));
            }
        });
        Sentence.test(35, "SILENT ones, SPEAKING ones, HELD ones, as bits.", () -> {
            HalfOaths x = Due.hills("oath go;oath go;oath go");
            x.begin(2);
            x.begin(1);
            x.stop(1, 0);
            Due.same("silent", x.which(0), 1);
            Due.same("speaking", x.which(1), 4);
            Due.same("held, with no word", x.which(2), 2);
        });
        Sentence.test(35, "Sets are bits; of none they count for nothing.", () -> {
            HalfOaths x = new HalfOaths();
            for (int what = 0; what < 3; what++) {
                Due.same("which " + what, x.which(what), 0);
            }
            Due.same("peace", x.peace(), 0);
            Due.same("quiet", x.quiet(), 0);
            Due.same("whose", x.whose(), 0);
            Due.same("trial", x.trial(5, false), 0);
            HalfOaths y = Due.hills("oath go to 0 if 0");
            Due.same("no ifs", y.reading(0, 1, 2), 0);
            Due.same("if 0 is the first bit", y.reading(0, 3, 2), 1);
            Due.same("no tos", y.reading(0, 1, 4), 0);
            Due.same("to 0 is the first bit", y.reading(0, 2, 4), 1);
            Due.same("going of one silent", y.person(0, 9), 0);
        });
    }

    private static void twins() {
        Sentence.test(36, "TWINS: pairs of PEOPLE of like OATHS (WORDS alike, one behind another).", () -> {
            Due.same("nobody", new HalfOaths().twins(), 0);
            Due.same("one", Due.hills("oath go").twins(), 0);
            Due.same("two", Due.hills("oath go breath 2;oath go guards 3").twins(), 1);
            Due.same("one is the other's begin", Due.hills("oath go;oath go go").twins(), 0);
            Due.same("one is the other's begin", Due.hills("oath go go;oath go").twins(), 0);
            Due.same("another n", Due.hills("oath by 1;oath by 2").twins(), 0);
            Due.same("another kind", Due.hills("oath by 1;oath to 1").twins(), 0);
            Due.same("another row", Due.hills("oath by 1 to 1;oath to 1 by 1").twins(), 0);
            Due.same("all pairs of six", Due.hills(Due.lines("oath go", 6)).twins(), 15);
            Due.same("three and two", Due.hills("oath go;oath wed;oath go;oath wed;oath go;oath not").twins(), 4);
        });
    }

    private static void twinsTold() {
        Sentence.test(36, "TWINS.", () -> {
            HalfOaths x = Due.hills("oath go by 1;oath wed");
            Due.same("none", x.twins(), 0);
            x.repeat(1, 0);
            Due.same("told anew", x.twins(), 1);
            x.undo();
            Due.same("undone", x.twins(), 0);
        });
    }

    private static HalfOaths speaking(int seed) {
        HalfOaths x = Due.hills("oath go by 1 by 2 by 3;oath wed if 1 if 2 guards 1;oath give to 1 to 2 to 3 breath 2;oath go;noise 40;ears 5",
            "hear 3 if person > 1;hear 11 if empty");
        x.begin(0);
        x.begin(1);
        x.begin(2);
        x.seed(seed);
        return x;
    }

    private static void trial() {
        Sentence.test(37, "TRIAL of N HOURS (0 to 60) from now (draws, too; nothing stays): HELD ones then, as bits; EARS then.", () -> {
            for (int seed = 1; seed < 25; seed++) {
                for (int n = 1; n < 8; n++) {
                    HalfOaths x = speaking(seed * 31);
                    String before = State.of(x);
                    int held = x.trial(n, false);
                    int ears = x.trial(n, true);
                    Due.same("what there is behind it", State.of(x), before);
                    x.hours(n);
                    Due.same("held in " + n + ", seed " + seed * 31, held, x.which(2));
                    Due.same("ears in " + n + ", seed " + seed * 31, ears, x.count(5));
                }
            }
            HalfOaths x = speaking(1);
            x.finish(2);
            Due.same("none, held", x.trial(0, false), 4);
            Due.same("none, ears", x.trial(0, true), 5);
            x.noise(0);
            Due.same("sixty", x.trial(60, false), 7);
            Due.same("sixty", x.trial(60, true), 7);
        });
    }

    private static void trialOfNone() {
        Sentence.test(37, "TRIAL: HELD ones, as bits (ears false), or EARS. IllegalArgumentException: N is none (0 to 60).", () -> {
            HalfOaths x = speaking(1);
            for (int n : new int[] {61, 62, -1, Integer.MIN_VALUE, Integer.MAX_VALUE}) {
                Due.noNumber("n " + n, () -> x.trial(n, true));
                Due.noNumber("n " + n, () -> x.trial(n, false));
            }
        });
        Sentence.test(38, "SPAN: the least (most false), or the greatest. IllegalArgumentException: N is none (0 to 60).", () -> {
            HalfOaths x = speaking(1);
            for (int n : new int[] {61, 62, -1, Integer.MIN_VALUE, Integer.MAX_VALUE}) {
                Due.noNumber("n " + n, () -> x.span(n, true));
                Due.noNumber("n " + n, () -> x.span(n, false));
            }
            Due.same("0", x.span(0, true), 5);
            Due.same("0", x.span(0, false), 5);
            x.noise(0);
            Due.same("60", x.span(60, false), 11);
            Due.same("60", x.span(60, true), 11);
            Due.same("of nobody", new HalfOaths().span(60, false), 0);
        });
    }

    private static void span() {
        Sentence.test(38, "SPAN: the least and the greatest EARS so from SEED 1, 2, .. 6.", () -> {
            int apart = 0;
            for (int noise = 0; noise <= 100; noise += 10) {
                for (int n = 0; n < 6; n++) {
                    HalfOaths x = speaking(99);
                    x.noise(noise);
                    int least = Integer.MAX_VALUE;
                    int most = Integer.MIN_VALUE;
                    for (int seed = 1; seed <= 6; seed++) {
                        x.seed(seed);
                        int ears = x.trial(n, true);
                        apart |= ears != least && seed > 1 ? 1 << seed : 0;
                        least = Math.min(least, ears);
                        most = Math.max(most, ears);
                    }
                    x.seed(99);
                    Due.same("the least of " + n + ", noise " + noise, x.span(n, false), least);
                    Due.same("the greatest of " + n + ", noise " + noise, x.span(n, true), most);
                    Due.same("nothing stays", x.seed(0), 99);
                }
            }
            Due.same("seeds make a difference", apart, 124);
            onlyBySeed();
        });
    }

    /** Hills in which just one of the first seven seeds lets one hear another number. */
    private static void onlyBySeed() {
        for (int seed = 1; seed <= 7; seed++) {
            int first = Draws.of(Draws.next(seed)) % 100;
            for (int noise : new int[] {first, first + 1}) {
                HalfOaths x = Due.hills("oath go breath 9", "hear 5 if whole");
                x.noise(noise);
                x.begin(0);
                int least = 99;
                int most = 0;
                for (int s = 1; s <= 6; s++) {
                    x.seed(s);
                    int ears = x.trial(1, true);
                    least = Math.min(least, ears);
                    most = Math.max(most, ears);
                }
                Due.same("the least, noise " + noise, x.span(1, false), least);
                Due.same("the greatest, noise " + noise, x.span(1, true), most);
            }
        }
    }
}
