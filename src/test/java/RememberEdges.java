/** Sentences of promises 39 to 45: THE LOG, SEED, acts UNDONE, THE IMAGE and counts. */
final class RememberEdges {
    private RememberEdges() {
    }

    static void run() {
        log();
        latestSixty();
        led();
        seed();
        undone();
        twelve();
        undoEachAct();
        noneRemembered();
        image();
        imageOfAll();
        count();
    }

    private static void isRow(String what, HalfOaths x, int ago, int... due) {
        for (int i = 0; i < due.length; i++) {
            Due.same(what + ", told " + i, x.log(ago, i), due[i]);
        }
    }

    private static void log() {
        Sentence.test(40, "THE LOG so many ago (0 the latest) what 0 HOUR, 1 the person, 2 0 to 6, 3 how many WORDS, 4 WEIGHT; NONE without. "
            + "NoSuchElementException: another what.", () -> {
            HalfOaths x = Due.hills("oath go by 1;oath wed;noise 0;hour 7");
            for (int ago : new int[] {0, 1, 59, 60, -1, Integer.MIN_VALUE, Integer.MAX_VALUE}) {
                Due.same("no row yet, " + ago + " ago", x.log(ago, 0), -1);
            }
            x.begin(1);
            x.finish(1);
            x.begin(0);
            x.hours(2);
            isRow("the latest", x, 0, 8, 0, 5, 2, 11);
            isRow("the first", x, 1, 7, 1, 5, 1, 9);
            for (int ago : new int[] {2, 59, 60, -1, -2, Integer.MIN_VALUE, Integer.MAX_VALUE}) {
                Due.same("no row " + ago + " ago", x.log(ago, 4), -1);
            }
            for (int what : new int[] {5, 6, -1, Integer.MIN_VALUE, Integer.MAX_VALUE}) {
                Due.noThing("what " + what, () -> x.log(0, what));
                Due.noThing("no row, what " + what, () -> x.log(2, what));
            }
        });
        Sentence.test(40, "(5 FINISHED or let finish, 6 taken back), how many WORDS COUNT (of a dog those SAID by then; "
            + "of one taken back those that had COUNTED), WEIGHT of that READING.", () -> {
            HalfOaths x = Due.hills("oath go by 5 by 4 by 3;oath wed;noise 0", "weigh 1 if whole");
            x.begin(0);
            x.stop(0, 1);
            isRow("a dog ahead of all", x, 0, 0, 0, 1, 0, 0);
            x.hours(3);
            x.stop(0, 1);
            isRow("a dog behind three", x, 0, 3, 0, 1, 3, 8);
            x.begin(1);
            int[] counts = {3, -1, 2, 1, 0};
            int[] weights = {8, -1, 7, 2, 0};
            for (int kind = 0; kind < 5; kind += kind == 0 ? 2 : 1) {
                x.stop(0, kind);
                isRow("kind " + kind, x, 0, 3, 0, kind, counts[kind], weights[kind]);
                x.undo();
            }
            x.finish(0);
            isRow("let finish", x, 0, 3, 0, 5, 4, 10);
            x.hours(1);
            isRow("finished", x, 0, 3, 1, 5, 1, 10);
            x.retract(0);
            isRow("taken back", x, 0, 4, 0, 6, 4, 10);
            x.turn(0, 1);
            Due.text(x, "weigh 30");
            x.law();
            isRow("as it was then", x, 0, 4, 0, 6, 4, 10);
        });
    }

    private static void latestSixty() {
        Sentence.test(40, "THE LOG: the latest 60 that were HELD, or heard a dog: HOUR, the person, 0 to 4 the KIND", () -> {
            HalfOaths x = Due.hills("oath go go;oath wed;noise 0");
            x.begin(1);
            Due.same("who begins is in no row", x.count(8), 0);
            x.finish(1);
            x.begin(0);
            for (int rows = 2; rows <= 60; rows++) {
                x.stop(0, 1);
                Due.same("rows", x.count(8), rows);
            }
            isRow("sixty, the first", x, 59, 0, 1, 5, 1, 9);
            Due.same("none ahead of it", x.log(60, 0), -1);
            x.hours(2);
            Due.same("sixty-one", x.count(8), 60);
            isRow("the latest", x, 0, 1, 0, 5, 2, 2);
            isRow("the second is the first now", x, 59, 0, 0, 1, 0, 0);
            Due.same("none ahead of it", x.log(60, 0), -1);
            Due.same("the first is gone", x.led(1, false), 0);
            x.retract(0);
            x.retract(1);
            Due.same("sixty-three", x.count(8), 60);
            isRow("two ago", x, 2, 1, 0, 5, 2, 2);
            isRow("the latest", x, 0, 2, 1, 6, 1, 9);
        });
    }

    private static void led() {
        Sentence.test(39, "LED: how many rows of THE LOG are of a person; the HOUR of the latest (none).", () -> {
            HalfOaths x = Due.hills("oath go go go;oath wed;noise 0;hour 5");
            x.begin(0);
            x.stop(0, 1);
            x.hours(1);
            x.stop(0, 1);
            x.hours(1);
            x.begin(1);
            x.finish(1);
            Due.same("two", x.led(0, false), 2);
            Due.same("the latest of two", x.led(0, true), 6);
            Due.same("one", x.led(1, false), 1);
            Due.same("its hour", x.led(1, true), 7);
            x.hours(1);
            for (int rows = 4; rows < 64; rows++) {
                x.retract(rows % 2);
                x.begin(rows % 2);
                x.finish(rows % 2);
            }
            Due.same("half of sixty", x.led(0, false), 30);
            Due.same("half of sixty", x.led(1, false), 30);
        });
        Sentence.test(39, "LED: how many rows (hour false), or the HOUR; NONE.", () -> {
            HalfOaths x = Due.hills("oath go;oath wed");
            Due.same("none", x.led(0, false), 0);
            Due.same("none", x.led(0, true), -1);
            x.begin(0);
            x.finish(0);
            Due.same("one in hour 0", x.led(0, true), 0);
            Due.same("none of the other", x.led(1, false), 0);
            Due.same("none of the other", x.led(1, true), -1);
            x.undo();
            Due.same("undone", x.led(0, true), -1);
        });
    }

    private static void seed() {
        Sentence.test(41, "SEED: what it was.", () -> {
            HalfOaths x = new HalfOaths();
            int before = 1;
            for (int seed : new int[] {0, -1, Integer.MAX_VALUE, Integer.MIN_VALUE, 1, 1, 123456789}) {
                Due.same("ahead of " + seed, x.seed(seed), before);
                before = seed;
            }
            Due.same("is no act", x.count(9), 0);
        });
    }

    private static void undone() {
        Sentence.test(42, "UNDONE: the latest ACT not undone yet (12 are remembered; HOURS of one call are one): "
            + "all is as ahead of it (but for the TAPE, fault(), THE IMAGE).", () -> {
            HalfOaths x = Due.hills("oath go by 1 by 2 by 3;oath wed;noise 30");
            x.begin(0);
            x.begin(1);
            String before = State.of(x);
            x.image();
            x.hours(60);
            Due.same("sixty hours are one", x.count(9), 3);
            x.seed(55);
            Due.noNumber("a wrong text", Due.text(x, "hour 5;x")::hills);
            Due.text(x, "hour 8");
            Due.same("undone", x.undo(), true);
            Due.same("all", State.of(x), before);
            Due.same("fault stays", x.fault(), 7);
            Due.same("six bytes stay", x.end(6), true);
            x.undo();
            x.undo();
            Due.same("the begin", x.which(0), 3);
            Due.same("the image stays", x.back(), true);
            Due.same("both speak in it", x.which(1), 3);
            HalfOaths y = Due.hills("oath go;oath wed");
            y.begin(1);
            y.finish(1);
            y.begin(0);
            for (int rows = 2; rows <= 61; rows++) {
                y.stop(0, 1);
            }
            Due.same("the first of 61 rows is gone", y.led(1, false), 0);
            y.undo();
            Due.same("and is there again", y.led(1, false), 1);
            isRow("as the first of sixty", y, 59, 0, 1, 5, 1, 9);
        });
    }

    private static void twelve() {
        Sentence.test(42, "UNDONE: whether there was one.", () -> {
            HalfOaths x = new HalfOaths();
            Due.same("none", x.undo(), false);
            for (int acts = 1; acts <= 30; acts++) {
                x.noise(acts);
                Due.same("acts", x.count(9), Math.min(acts, 12));
            }
            for (int acts = 29; acts >= 18; acts--) {
                Due.same("one of twelve", x.undo(), true);
                Due.same("noise", x.count(3), acts);
                Due.same("acts", x.count(9), acts - 18);
            }
            Due.same("a thirteenth is not remembered", x.undo(), false);
            Due.same("nothing happens", x.count(3), 18);
            x.noise(70);
            x.noise(71);
            x.undo();
            x.noise(72);
            Due.same("an act behind one undone", x.count(9), 2);
            x.undo();
            Due.same("the one undone is gone", x.count(3), 70);
            x.undo();
            Due.same("and the one ahead", x.count(3), 18);
            Due.same("no more", x.undo(), false);
        });
    }

    private static HalfOaths begun() {
        HalfOaths x = Due.hills("oath go by 1;oath wed if 1;oath give sum 3 not;noise 50;mode 1 1;hour 4;ears 5");
        x.begin(1);
        x.begin(2);
        x.finish(2);
        return x;
    }

    private interface Act {
        void on(HalfOaths x);
    }

    private static void undoEachAct() {
        Sentence.test(42, "ACTS: HOURS; one begins (SPEAKING, nothing SAID yet; one SILENT); one is BROKEN IN ON by hand; "
            + "one is let finish (SPEAKING: HELD, all COUNTS); one takes it back (HELD: SILENT); GUARDS are told; NOISE is told; "
            + "a MODE is told; an OATH is told anew by that of another one (of one SILENT) (each also if it changes nothing).", () -> {
            Act[] acts = {x -> x.hours(1), x -> x.hours(60), x -> x.begin(0), x -> x.stop(1, 0), x -> x.stop(1, 1), x -> x.stop(1, 2),
                x -> x.stop(1, 3), x -> x.stop(1, 4), x -> x.finish(1), x -> x.retract(2), x -> x.guard(0, 3), x -> x.guard(0, 0),
                x -> x.noise(3), x -> x.noise(50), x -> x.turn(1, 2), x -> x.turn(1, 1), x -> x.repeat(0, 1), x -> x.repeat(0, 2)};
            for (int i = 0; i < acts.length; i++) {
                HalfOaths x = begun();
                String before = State.of(x);
                acts[i].on(x);
                Due.same("act " + i + " is one", x.count(9), 4);
                Due.same("act " + i + " is undone", x.undo(), true);
                Due.same("all behind act " + i, State.of(x), before);
            }
            Act[] others = {x -> x.seed(7), HalfOaths::image, x -> x.trial(5, true), x -> x.span(5, true), x -> x.feed(1, 2, 3, 4, 5), x -> x.end(0)};
            for (int i = 0; i < others.length; i++) {
                HalfOaths x = begun();
                others[i].on(x);
                Due.same("no act " + i, x.count(9), 3);
            }
        });
    }

    private static void noneRemembered() {
        Sentence.test(42, "A text, going back: none are remembered.", () -> {
            HalfOaths x = begun();
            Due.noNumber("a wrong text", Due.text(x, "hour x")::hills);
            Due.noNumber("a wrong law", Due.text(x, "hear x")::law);
            Due.same("are remembered behind a wrong one", x.count(9), 3);
            Due.same("and can be undone", x.undo(), true);
            x.image();
            x.hills();
            Due.same("behind hills without a line", x.count(9), 0);
            Due.same("behind hills without a line", x.undo(), false);
            x.noise(1);
            Due.text(x, "ease 1").law();
            Due.same("behind a law", x.count(9), 0);
            Due.same("behind a law", x.undo(), false);
            Due.same("noise is as told", x.count(3), 1);
            x.noise(2);
            x.back();
            Due.same("behind going back", x.count(9), 0);
            Due.same("behind going back", x.undo(), false);
            Due.same("noise of the image", x.count(3), 50);
            HalfOaths y = begun();
            Due.same("no image, none gone back to", y.back(), false);
            Due.same("are remembered yet", y.count(9), 3);
        });
    }

    private static void image() {
        Sentence.test(44, "One goes back to THE IMAGE: true; false, and nothing happens, if none was kept.", () -> {
            HalfOaths x = begun();
            String before = State.of(x);
            Due.same("none was kept", x.back(), false);
            Due.same("nothing happens", State.of(x), before);
            x.image();
            x.noise(1);
            Due.same("back", x.back(), true);
            Due.same("noise", x.count(3), 50);
            Due.same("back again", x.back(), true);
            Due.same("of nobody, none was kept", new HalfOaths().back(), false);
        });
        Sentence.test(43, "THE IMAGE is kept.", () -> {
            HalfOaths x = new HalfOaths();
            x.image();
            Due.text(x, "oath go;noise 3").hills();
            x.back();
            Due.same("of nobody", x.count(0), 0);
            Due.same("noise", x.count(3), 20);
            x.noise(7);
            x.image();
            Due.same("no act", x.count(9), 1);
            x.noise(8);
            x.image();
            x.noise(9);
            x.back();
            Due.same("one alone, the latest", x.count(3), 8);
            x.undo();
            Due.same("none remembered ahead of it", x.count(3), 8);
        });
    }

    private static void imageOfAll() {
        Sentence.test(44, "THE IMAGE (one) of all may be kept, and gone back to (but for the TAPE, fault() and THE IMAGE itself).", () -> {
            HalfOaths x = Due.hills("oath go by 1;oath wed if 1;noise 50;mode 1 1;hour 4;ears 5", "weigh 3 if whole;hear 4");
            x.begin(1);
            x.stop(1, 1);
            x.seed(99);
            x.image();
            // no act is remembered behind it
            String kept = State.of(x).replace("count 2, mode", "count 0, mode");
            for (int i = 0; i < 2; i++) {
                Due.text(x, "oath go;noise 1;mode 0 2;hour 9;ears 9").hills();
                Due.text(x, i == 0 ? "" : "ease 1").law();
                x.guard(0, 4);
                x.repeat(0, 1);
                x.finish(1);
                x.hours(5);
                x.seed(5);
                Due.noNumber("a wrong text", Due.text(x, "  y")::law);
                Due.text(x, "noise 2");
                Due.same("back", x.back(), true);
                Due.same("all", State.of(x), kept);
                Due.same("fault stays", x.fault(), 2);
                Due.same("seven bytes stay", x.end(7), true);
                Due.same("just these", x.end(8), false);
            }
            x.stop(1, 1);
            x.image();
            x.undo();
            x.finish(1);
            x.back();
            isRow("a row in whose place another one came", x, 0, 4, 1, 1, 0, 0);
            HalfOaths y = new HalfOaths();
            y.image();
            Due.text(y, "weigh 1").law();
            y.back();
            Due.same("no law", y.count(2), -1);
        });
    }

    private static void count() {
        Sentence.test(45, "0 PEOPLE, 1 texts of THE HILLS, 2 LINES of THE LAW (NONE without one), 3 NOISE, 4 HOUR, 5 EARS, 6 WORDS of all, "
            + "7 GUARDS of all, 8 rows of THE LOG, 9 acts that can be UNDONE. NONE for another what.", () -> {
            HalfOaths x = new HalfOaths();
            int[] none = {0, 0, -1, 20, 0, 0, 0, 0, 0, 0};
            for (int what = 0; what < 10; what++) {
                Due.same("of nobody, " + what, x.count(what), none[what]);
            }
            Due.text(x, Due.lines("oath go go go go go go go guards 9", 6) + ";noise 31;hour 12;ears 44").hills();
            Due.text(x, "hear 1;hear 2").law();
            x.begin(0);
            x.stop(0, 1);
            x.stop(0, 0);
            int[] due = {6, 1, 2, 31, 12, 44, 42, 54, 2, 3};
            for (int what = 0; what < 10; what++) {
                Due.same("of six, " + what, x.count(what), due[what]);
            }
            for (int what : new int[] {10, 11, -1, -2, Integer.MIN_VALUE, Integer.MAX_VALUE}) {
                Due.same("what " + what, x.count(what), -1);
            }
        });
    }
}
