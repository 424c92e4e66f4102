/** Sentences of promises 12 to 20: being BROKEN IN ON, HOURS and the other ACTS. */
final class ActEdges {
    private static final int COUGH = 0;
    private static final int DOG = 1;
    private static final int BELL = 2;
    private static final int KISS = 3;
    private static final int ANOTHER = 4;

    private ActEdges() {
    }

    static void run() {
        coughAndDog();
        bellAndKiss();
        another();
        anotherInAnHour();
        stop();
        hours();
        speakers();
        chances();
        kinds();
        sayingOn();
        ears();
        hourAndSeed();
        begin();
        finish();
        retract();
        told();
        repeat();
    }

    /** Hills in which person 0 has said so many of its six words; persons 1 and 2 are silent. */
    private static HalfOaths said(int words) {
        HalfOaths x = Due.hills("oath go by 5 by 4 by 3 by 2 by 1;oath wed;oath go;noise 0");
        x.begin(0);
        if (words > 0) {
            x.hours(words);
        }
        return x;
    }

    private static void isHeld(String what, HalfOaths x, int person, int words) {
        Due.same(what + ": held", x.person(person, 3), 2);
        Due.same(what + ": counts", x.person(person, 4), words);
    }

    private static void coughAndDog() {
        Sentence.test(14, "by a cough (0) it is HELD, all that is SAID COUNTS;", () -> {
            for (int words = 0; words <= 5; words++) {
                HalfOaths x = said(words);
                Due.same("behind " + words, x.stop(0, COUGH), words);
                isHeld("behind " + words, x, 0, words);
            }
        });
        Sentence.test(14, "by a dog (1) nothing comes of it;", () -> {
            for (int words = 0; words <= 5; words++) {
                HalfOaths x = said(words);
                Due.same("behind " + words, x.stop(0, DOG), -1);
                Due.same("speaks on", x.person(0, 3), 1);
                Due.same("as many said", x.person(0, 4), words);
                Due.same("is no reading that is held", x.hold(0, 6), 0);
                x.hours(1);
                Due.same("one word more", x.person(0, 4), words + 1);
            }
        });
    }

    private static void bellAndKiss() {
        Sentence.test(14, "by a bell (2) one less COUNTS; by a kiss (3) two less (0 at least, both);", () -> {
            int[] bell = {0, 0, 1, 2, 3, 4};
            int[] kiss = {0, 0, 0, 1, 2, 3};
            for (int words = 0; words <= 5; words++) {
                HalfOaths x = said(words);
                Due.same("bell behind " + words, x.stop(0, BELL), bell[words]);
                isHeld("bell behind " + words, x, 0, bell[words]);
                HalfOaths y = said(words);
                Due.same("kiss behind " + words, y.stop(0, KISS), kiss[words]);
                isHeld("kiss behind " + words, y, 0, kiss[words]);
            }
        });
    }

    private static void another() {
        Sentence.test(14, "by another (4): none COUNTS, if somebody else is SPEAKING (as all is then), else as by a cough.", () -> {
            HalfOaths x = said(3);
            x.begin(2);
            Due.same("another speaks", x.stop(0, ANOTHER), 0);
            isHeld("another speaks", x, 0, 0);
            HalfOaths y = said(3);
            Due.same("all others are silent", y.stop(0, ANOTHER), 3);
            isHeld("all others are silent", y, 0, 3);
            HalfOaths z = said(3);
            z.begin(1);
            z.finish(1);
            z.begin(2);
            z.stop(2, COUGH);
            Due.same("all others are held", z.stop(0, ANOTHER), 3);
            HalfOaths ahead = Due.hills("oath go go go;oath wed wed wed;noise 0");
            ahead.begin(0);
            ahead.begin(1);
            ahead.hours(2);
            Due.same("one with a lower number speaks", ahead.stop(1, ANOTHER), 0);
            Due.same("nobody speaks any more", ahead.stop(0, ANOTHER), 2);
            HalfOaths none = said(0);
            Due.same("nothing said, nobody else", none.stop(0, ANOTHER), 0);
            HalfOaths back = said(2);
            back.begin(1);
            back.undo();
            Due.same("another's begin undone", back.stop(0, ANOTHER), 2);
        });
        Sentence.test(14, "(None of the others is broken in on by that.)", () -> {
            HalfOaths x = said(3);
            x.begin(1);
            x.begin(2);
            x.stop(0, ANOTHER);
            Due.same("two speak on", x.which(1), 6);
            Due.same("one row", x.count(8), 1);
            x.stop(2, ANOTHER);
            Due.same("one speaks on", x.which(1), 2);
            Due.same("with nothing said", x.person(1, 4), 0);
        });
    }

    private static void anotherInAnHour() {
        Sentence.test(12, "by another (4): none COUNTS, if somebody else is SPEAKING (as all is then), else as by a cough.", () -> {
            // person 0 has just one word more to say, person 1 is guarded or is not
            String people = "oath go by 1 breath 1;oath wed if 1 if 2 if 3;noise 0";
            HalfOaths x = Due.hills(people);
            x.begin(0);
            x.begin(1);
            x.hours(1);
            x.guard(0, 9);
            x.noise(90);
            x.seed(Draws.seedFor(1, 0, 100, 0, 5, ANOTHER));
            Due.same("both are held", x.hours(1), 2);
            isHeld("who is first has finished, and speaks no more", x, 0, 2);
            isHeld("as by a cough", x, 1, 1);
            HalfOaths y = Due.hills(people);
            y.begin(0);
            y.begin(1);
            y.hours(1);
            y.guard(1, 9);
            y.noise(90);
            y.seed(Draws.seedFor(100, 0, 5, ANOTHER));
            Due.same("one is held", y.hours(1), 1);
            isHeld("the second one speaks yet", y, 0, 0);
            Due.same("and speaks on", y.person(1, 4), 2);
        });
    }

    private static void stop() {
        Sentence.test(14, "One is BROKEN IN ON: how many WORDS COUNT; NONE of a dog.", () -> {
            int[] due = {2, -1, 1, 0, 2};
            for (int kind = 0; kind < 5; kind++) {
                Due.same("kind " + kind, said(2).stop(0, kind), due[kind]);
                Due.same("of nothing, kind " + kind, said(0).stop(0, kind), kind == DOG ? -1 : 0);
            }
        });
        Sentence.test(14, "IllegalArgumentException: the KIND is none (0 to 4); IllegalStateException: it is not SPEAKING.", () -> {
            HalfOaths x = said(2);
            for (int kind : new int[] {5, 6, 9, -1, Integer.MIN_VALUE, Integer.MAX_VALUE}) {
                Due.noNumber("speaking, kind " + kind, () -> x.stop(0, kind));
                Due.noNumber("silent, kind " + kind, () -> x.stop(1, kind));
            }
            for (int kind = 0; kind < 5; kind++) {
                int k = kind;
                Due.cannotBe("silent, kind " + kind, () -> x.stop(1, k));
            }
            x.stop(0, 4);
            for (int kind = 0; kind < 5; kind++) {
                int k = kind;
                Due.cannotBe("held, kind " + kind, () -> x.stop(0, k));
            }
        });
    }

    private static void hours() {
        Sentence.test(12, "So many HOURS more (1 to 60): how many were HELD in these. IllegalArgumentException: they are none.", () -> {
            HalfOaths x = Due.hills("oath go;oath go go;oath go go go;oath go go go go;oath go;noise 0");
            x.begin(4);
            x.finish(4);
            for (int person = 0; person < 4; person++) {
                x.begin(person);
            }
            x.stop(0, DOG);
            Due.same("one hour", x.hours(1), 1);
            Due.same("one hour", x.count(4), 1);
            Due.same("two hours", x.hours(2), 2);
            Due.same("two hours", x.count(4), 3);
            Due.same("sixty hours", x.hours(60), 1);
            Due.same("sixty hours", x.count(4), 63);
            Due.same("nobody speaks any more", x.hours(60), 0);
            for (int n : new int[] {0, 61, 62, -1, -60, Integer.MIN_VALUE, Integer.MAX_VALUE}) {
                Due.noNumber("hours " + n, () -> x.hours(n));
            }
            Due.same("none went by", x.count(4), 123);
        });
    }

    private static void speakers() {
        Sentence.test(12, "AN HOUR more: each person, by numbers, that is SPEAKING:", () -> {
            HalfOaths x = Due.hills("oath go go guards 9;oath go go;oath go go;oath go go;oath go go guards 9;oath go go;noise 90");
            for (int person = 0; person < 6; person++) {
                x.begin(person);
            }
            x.finish(1);
            x.finish(3);
            x.retract(3);
            x.seed(Draws.seedFor(1, 0, 100, 89, 5, BELL, 1, 0, 100, 0, 5, DOG));
            Due.same("one is held", x.hours(1), 1);
            Due.same("the first four that speak, by numbers", x.which(1), 1 + 16 + 32);
            isHeld("person 2 by a bell", x, 2, 0);
            Due.same("the first one said a word", x.person(0, 4), 1);
            Due.same("the fifth one said a word", x.person(4, 4), 1);
            Due.same("the sixth one too, behind a dog", x.person(5, 4), 1);
            Due.same("the dog is told", x.log(0, 1), 5);
            Due.same("who is silent stays so", x.person(3, 3), 0);
            isHeld("who was held stays so", x, 1, 2);
        });
    }

    private static void brokenIn(String what, int noise, int guards, int hundredth, boolean due) {
        HalfOaths x = Due.hills("oath go go;noise " + noise);
        x.guard(0, guards);
        x.begin(0);
        x.seed(Draws.seedFor(100, hundredth, 5, COUGH));
        Due.same(what + ": noise " + noise + ", guards " + guards + ", draw " + hundredth, x.hours(1) == 1, due);
    }

    private static void chances() {
        Sentence.test(12, "if DRAW modulo 100 (the DRAW always) is below NOISE less 10 times its GUARDS:", () -> {
            brokenIn("below", 31, 0, 30, true);
            brokenIn("not below", 30, 0, 30, false);
            brokenIn("nothing is below 0", 0, 0, 0, false);
            brokenIn("0 is below 1", 1, 0, 0, true);
            brokenIn("99 is below 100", 100, 0, 99, true);
            brokenIn("99 is not below 99", 99, 0, 99, false);
            brokenIn("below, guarded", 61, 3, 30, true);
            brokenIn("not below, guarded", 60, 3, 30, false);
            brokenIn("nine guards", 91, 9, 0, true);
            brokenIn("nine guards", 90, 9, 0, false);
            brokenIn("more guards than noise", 5, 9, 0, false);
            HalfOaths x = Due.hills("oath go go;oath go go guards 9;oath go;noise 0");
            x.begin(0);
            x.begin(1);
            x.seed(7);
            x.hours(1);
            Due.same("a draw for each that speaks, though none can be", x.seed(7), Draws.next(Draws.next(7)));
            x.finish(0);
            x.finish(1);
            x.hours(60);
            Due.same("none for others", x.seed(7), 7);
        });
    }

    private static void kinds() {
        Sentence.test(12, "it is BROKEN IN ON by the KIND DRAW modulo 5 (the DRAW just then);", () -> {
            int[] counts = {3, 4, 2, 1, 3};
            for (int kind = 0; kind < 5; kind++) {
                HalfOaths x = said(3);
                x.noise(100);
                int seed = Draws.seedFor(100, 50 + kind, 5, kind);
                x.seed(seed);
                Due.same("held, kind " + kind, x.hours(1), kind == DOG ? 0 : 1);
                Due.same("kind " + kind, x.log(0, 2), kind);
                Due.same("words, kind " + kind, x.person(0, 4), counts[kind]);
                Due.same("two draws, kind " + kind, x.seed(seed), Draws.next(Draws.next(seed)));
            }
            HalfOaths y = said(3);
            y.noise(50);
            int seed = Draws.seedFor(100, 50);
            y.seed(seed);
            y.hours(1);
            Due.same("one draw, if not", y.seed(1), Draws.next(seed));
        });
    }

    private static void sayingOn() {
        Sentence.test(12, "if it is SPEAKING still: BREATH WORDS more are SAID, and if that is all of these, it is FINISHED.", () -> {
            for (int breath = 1; breath <= 9; breath++) {
                HalfOaths x = Due.hills("oath go go go go breath " + breath + ";noise 0");
                x.begin(0);
                Due.same("breath " + breath, x.hours(1), breath < 4 ? 0 : 1);
                Due.same("breath " + breath, x.person(0, 4), Math.min(4, breath));
                Due.same("breath " + breath, x.person(0, 3), breath < 4 ? 1 : 2);
            }
            HalfOaths dog = Due.hills("oath go go breath 2;noise 100");
            dog.begin(0);
            dog.seed(Draws.seedFor(1, 0, 5, DOG));
            Due.same("behind a dog, too", dog.hours(1), 1);
            Due.same("finished", dog.log(0, 2), 5);
            Due.same("the dog ahead of it", dog.log(1, 2), 1);
            HalfOaths cough = Due.hills("oath go go breath 2;noise 100");
            cough.begin(0);
            cough.seed(Draws.seedFor(1, 0, 5, COUGH));
            cough.hours(1);
            isHeld("who is held says nothing more", cough, 0, 0);
        });
        Sentence.test(12, "Who has SAID all is HELD, all COUNTS (FINISHED).", () -> {
            HalfOaths x = Due.hills("oath go;oath go go go breath 2;noise 0");
            x.begin(0);
            x.begin(1);
            x.hours(1);
            isHeld("one of one", x, 0, 1);
            Due.same("two of three", x.person(1, 3), 1);
            x.hours(1);
            isHeld("three of three, not four", x, 1, 3);
            Due.same("finished", x.log(0, 2), 5);
            Due.same("all count", x.log(0, 3), 3);
        });
    }

    private static void ears() {
        Sentence.test(12, "EARS are HEARD of each READING that is HELD by that HOUR more (9999 at most; of what is HELD by hand nothing is heard).", () -> {
            HalfOaths x = Due.hills("oath go;oath wed if 1;oath go;oath go;noise 0", "hear 3 if person > 0;hear 10 if empty");
            x.begin(0);
            x.begin(1);
            x.begin(2);
            x.begin(3);
            x.finish(2);
            x.stop(3, COUGH);
            Due.same("by hand", x.count(5), 0);
            x.hours(1);
            Due.same("one finished", x.count(5), 1);
            x.noise(100);
            x.seed(Draws.seedFor(1, 0, 5, KISS));
            x.hours(1);
            Due.same("an empty one", x.count(5), 15);
            x.hours(60);
            Due.same("what was held before is not heard again", x.count(5), 15);
            HalfOaths dog = Due.hills("oath go go;noise 100");
            dog.begin(0);
            dog.seed(Draws.seedFor(1, 0, 5, DOG));
            dog.hours(1);
            Due.same("who hears a dog is not held", dog.count(5), 0);
        });
        Sentence.test(12, "EARS 0 to 9999 (0 at first).", () -> {
            HalfOaths x = Due.hills(Due.lines("oath go", 6) + ";noise 0", Due.lines("hear 40", 12));
            Due.same("at first", x.count(5), 0);
            Due.text(x, "ears 999").hills();
            for (int times = 1; times <= 20; times++) {
                x.begin(times % 6);
                x.hours(1);
                x.retract(times % 6);
                Due.same("heard " + times, x.count(5), Math.min(9999, 999 + 481 * times));
            }
            HalfOaths y = Due.hills("oath go;noise 0;ears 379", Due.lines("hear 40", 12));
            for (int times = 1; times <= 21; times++) {
                y.begin(0);
                y.hours(1);
                y.retract(0);
                Due.same("heard just so many " + times, y.count(5), Math.min(9999, 379 + 481 * times));
            }
        });
    }

    private static void hourAndSeed() {
        Sentence.test(12, "HOUR is 1 more (9999 at most).", () -> {
            HalfOaths x = Due.hills("oath go;noise 0;hour 999");
            for (int i = 1; i <= 150; i++) {
                x.hours(60);
            }
            Due.same("9999", x.count(4), 9999);
            x.undo();
            x.hours(59);
            Due.same("9998", x.count(4), 9998);
            x.hours(1);
            Due.same("9999", x.count(4), 9999);
            x.hours(1);
            Due.same("9999 yet", x.count(4), 9999);
            x.hours(60);
            Due.same("9999 yet", x.count(4), 9999);
            x.begin(0);
            Due.same("people speak on", x.hours(1), 1);
            Due.same("in that hour", x.log(0, 0), 9999);
        });
        Sentence.test(12, "HOUR 0 to 9999 (0 at first).", () -> {
            HalfOaths x = new HalfOaths();
            Due.same("at first", x.count(4), 0);
            x.hours(1);
            Due.same("one", x.count(4), 1);
        });
        Sentence.test(12, "DRAW: SEED is 1103515245 times SEED and 12345, as an int that goes round; bits 16 to 30 (SEED 1 at first).", () -> {
            HalfOaths first = Due.hills("oath go;noise 0");
            first.begin(0);
            first.hours(1);
            Due.same("from 1", first.seed(0), 1103527590);
            for (int seed : new int[] {0, 1, 2, -1, 65535, 1 << 30, Integer.MAX_VALUE, Integer.MIN_VALUE, 123456789, -987654321}) {
                HalfOaths x = Due.hills("oath go go;noise 0");
                x.begin(0);
                x.seed(seed);
                x.hours(1);
                Due.same("behind " + seed, x.seed(0), (int) (1103515245L * seed + 12345L));
            }
            drawnByBits();
        });
    }

    /** By noise that lies just at the draw and just above it, for seeds that are below 0 behind it, too. */
    private static void drawnByBits() {
        for (int seed = -40; seed < 40; seed++) {
            int hundredth = (int) ((1103515245L * seed + 12345L >> 16 & 32767) % 100);
            for (int above = 0; above < 2; above++) {
                HalfOaths x = Due.hills("oath go go");
                x.noise(hundredth + above);
                x.begin(0);
                x.seed(seed);
                x.hours(1);
                int draws = above == 1 ? 2 : 1;
                int behind = draws == 2 ? Draws.next(Draws.next(seed)) : Draws.next(seed);
                Due.same("seed " + seed + ", noise " + (hundredth + above), x.seed(0), behind);
                Due.same("seed " + seed, x.log(0, 2), draws == 1 ? -1 : Draws.of(behind) % 5);
            }
        }
    }

    private static void begin() {
        Sentence.test(13, "One begins: how many WORDS it has to say. IllegalStateException: it is not SILENT.", () -> {
            HalfOaths x = Due.hills("oath go;oath" + " go".repeat(12));
            Due.same("one", x.begin(0), 1);
            Due.same("twelve", x.begin(1), 12);
            Due.cannotBe("speaking", () -> x.begin(0));
            x.finish(0);
            Due.cannotBe("held", () -> x.begin(0));
            x.retract(0);
            Due.same("taken back", x.begin(0), 1);
        });
        Sentence.test(13, "one begins (SPEAKING, nothing SAID yet; one SILENT);", () -> {
            HalfOaths x = said(3);
            x.stop(0, COUGH);
            x.retract(0);
            x.begin(0);
            Due.same("speaking", x.person(0, 3), 1);
            Due.same("nothing said yet", x.person(0, 4), 0);
            Due.same("no row", x.count(8), 2);
            Due.same("nobody else", x.which(1), 1);
        });
    }

    private static void finish() {
        Sentence.test(15, "One is let finish: WEIGHT. IllegalStateException: it is not SPEAKING.", () -> {
            HalfOaths x = said(0);
            Due.same("behind no word, the weight of all", x.finish(0), 11);
            Due.cannotBe("held", () -> x.finish(0));
            Due.cannotBe("silent", () -> x.finish(1));
            Due.text(x, "oath sum 1");
            x.hills();
            x.begin(3);
            Due.same("an empty one", x.finish(3), 0);
        });
        Sentence.test(15, "one is let finish (SPEAKING: HELD, all COUNTS);", () -> {
            for (int words = 0; words <= 5; words++) {
                HalfOaths x = said(words);
                x.finish(0);
                isHeld("behind " + words, x, 0, 6);
                Due.same("row", x.log(0, 2), 5);
            }
        });
    }

    private static void retract() {
        Sentence.test(16, "One takes it back: how many WORDS COUNTED. IllegalStateException: it is not HELD.", () -> {
            for (int words = 0; words <= 5; words++) {
                HalfOaths x = said(words);
                Due.cannotBe("speaking", () -> x.retract(0));
                x.stop(0, COUGH);
                Due.same("behind " + words, x.retract(0), words);
                Due.cannotBe("silent", () -> x.retract(0));
            }
            HalfOaths x = said(1);
            x.finish(0);
            Due.same("all", x.retract(0), 6);
        });
        Sentence.test(16, "one takes it back (HELD: SILENT);", () -> {
            HalfOaths x = said(3);
            x.stop(0, COUGH);
            x.retract(0);
            Due.same("silent", x.person(0, 3), 0);
            Due.same("holds nothing", x.hold(0, 0), 0);
            Due.same("row", x.log(0, 2), 6);
        });
    }

    private static void told() {
        Sentence.test(17, "GUARDS are told: how many there were. IllegalArgumentException: n is none (0 to 9).", () -> {
            HalfOaths x = Due.hills("oath go;oath go guards 4");
            Due.same("none at first", x.guard(0, 9), 0);
            Due.same("nine", x.guard(0, 0), 9);
            Due.same("none", x.guard(0, 1), 0);
            Due.same("of another", x.guard(1, 4), 4);
            for (int n : new int[] {10, -1, Integer.MIN_VALUE, Integer.MAX_VALUE}) {
                Due.noNumber("guards " + n, () -> x.guard(0, n));
            }
            Due.same("as told", x.person(0, 2), 1);
        });
        Sentence.test(18, "NOISE is told: what it was. IllegalArgumentException: n is none (0 to 100).", () -> {
            HalfOaths x = new HalfOaths();
            Due.same("20 at first", x.noise(100), 20);
            Due.same("100", x.noise(0), 100);
            Due.same("0", x.noise(1), 0);
            for (int n : new int[] {101, -1, Integer.MIN_VALUE, Integer.MAX_VALUE}) {
                Due.noNumber("noise " + n, () -> x.noise(n));
            }
            Due.same("as told", x.count(3), 1);
        });
        Sentence.test(19, "A MODE is told: what it was. IllegalArgumentException: n is none (0 to 2).", () -> {
            HalfOaths x = new HalfOaths();
            for (int distance = 0; distance < 4; distance++) {
                int d = distance;
                Due.same("0 at first", x.turn(distance, 2), 0);
                Due.same("2", x.turn(distance, 0), 2);
                Due.same("0", x.turn(distance, 1), 0);
                for (int n : new int[] {3, -1, Integer.MIN_VALUE, Integer.MAX_VALUE}) {
                    Due.noNumber("mode " + n, () -> x.turn(d, n));
                }
                Due.same("as told", x.mode(distance), 1);
            }
        });
    }

    private static void repeat() {
        Sentence.test(20, "An OATH is told anew by that of another one: how many WORDS it has. "
            + "IllegalArgumentException: both are one; IllegalStateException: the first one is not SILENT.", () -> {
            HalfOaths x = Due.hills("oath go;oath" + " give sum 2".repeat(6) + ";oath wed;noise 0");
            Due.same("twelve", x.repeat(0, 1), 12);
            Due.same("the last of twelve", x.word(0, 11, true), 2);
            Due.same("one", x.repeat(0, 2), 1);
            Due.same("nothing behind it", x.word(0, 1, false), -1);
            Due.noNumber("both are one", () -> x.repeat(0, 0));
            x.begin(0);
            Due.cannotBe("speaking", () -> x.repeat(0, 1));
            Due.noNumber("both are one, speaking", () -> x.repeat(0, 0));
            Due.same("of one that speaks", x.repeat(2, 0), 1);
            x.finish(0);
            Due.cannotBe("held", () -> x.repeat(0, 1));
            Due.same("of one that is held", x.repeat(1, 0), 1);
            x.retract(0);
            Due.same("taken back", x.repeat(0, 2), 1);
        });
        Sentence.test(20, "an OATH is told anew by that of another one (of one SILENT) (each also if it changes nothing).", () -> {
            HalfOaths x = Due.hills("oath go by 3 breath 4 guards 5;oath wed breath 6 guards 7;oath wed");
            x.repeat(0, 1);
            Due.same("its own breath", x.person(0, 1), 4);
            Due.same("its own guards", x.person(0, 2), 5);
            Due.same("the other's oath stays", x.word(1, 0, false), 2);
            Due.same("like oaths", x.repeat(2, 1), 1);
            Due.same("an act, too", x.count(9), 2);
            x.guard(0, 5);
            x.noise(20);
            x.turn(3, 0);
            Due.same("acts that change nothing", x.count(9), 5);
        });
    }
}
