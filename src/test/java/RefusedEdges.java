/** What is said of all exceptions behind the Terms, by every promise that throws: which, which first, and that nothing changes. */
final class RefusedEdges {
    private static final int[] NOBODY = {3, 6, -1, -2, Integer.MIN_VALUE, Integer.MAX_VALUE};

    private interface Call {
        Object on(HalfOaths x);
    }

    private interface CallOf {
        Object on(HalfOaths x, int person);
    }

    private RefusedEdges() {
    }

    static void run() {
        nobodyAsked();
        nobodyActs();
        nobodySearched();
        noDistance();
        noNumbers();
        noNumbersOnTheTape();
        cannotBe();
        firstOfTwo();
        firstOfThree();
        nothingChanges();
        nothingChangesByActs();
        nothingChangesBySearches();
        nothingChangesByTexts();
        nothingChangesByAThirteenth();
        nothingChangesByRows();
    }

    /** Three people, one silent, one that speaks and one held; acts, rows, a law, an image and three bytes on the TAPE. */
    private static HalfOaths three() {
        HalfOaths x = Due.hills("oath go by 1;oath wed if 1 to 2 guards 2;oath give to 1;noise 0;mode 0 1;hour 3;ears 4", "weigh 1;hear 2");
        x.begin(1);
        x.begin(2);
        x.image();
        x.finish(2);
        x.hours(1);
        x.feed(1, 2, 3, 4, 5);
        x.end(3);
        return x;
    }

    private static void outside(int promise, CallOf... calls) {
        Sentence.test(promise, "IndexOutOfBoundsException: there is no such person, WORD, DISTANCE.", () -> {
            for (CallOf call : calls) {
                HalfOaths x = three();
                for (int person : NOBODY) {
                    Due.outside("person " + person, () -> call.on(x, person));
                }
                HalfOaths none = new HalfOaths();
                Due.outside("person 0 of nobody", () -> call.on(none, 0));
            }
        });
    }

    private static void nobodyAsked() {
        outside(7, (x, person) -> x.person(person, 0));
        outside(8, (x, person) -> x.word(person, 0, false), (x, person) -> x.word(person, 0, true));
        outside(9, (x, person) -> x.reading(person, 0, 0));
        outside(10, (x, person) -> x.hold(person, 0));
    }

    private static void nobodyActs() {
        outside(13, HalfOaths::begin);
        outside(14, (x, person) -> x.stop(person, 0));
        outside(15, HalfOaths::finish);
        outside(16, HalfOaths::retract);
        outside(17, (x, person) -> x.guard(person, 0));
        outside(20, (x, person) -> x.repeat(person, 0), (x, person) -> x.repeat(0, person), (x, person) -> x.repeat(person, person));
    }

    private static void nobodySearched() {
        outside(21, (x, person) -> x.order(person, -1), (x, person) -> x.order(person, 0), (x, person) -> x.order(person, 99));
        outside(22, (x, person) -> x.fence(person, 0));
        outside(23, (x, person) -> x.gainsay(person, 0), (x, person) -> x.gainsay(0, person), (x, person) -> x.gainsay(person, person));
        outside(31, (x, person) -> x.pairs(person == -1 ? 4 : person));
        outside(32, HalfOaths::rests);
        outside(39, (x, person) -> x.led(person, false), (x, person) -> x.led(person, true));
    }

    private static void noDistance() {
        for (int promise : new int[] {11, 19}) {
            Sentence.test(promise, "IndexOutOfBoundsException: there is no such person, WORD, DISTANCE.", () -> {
                HalfOaths x = three();
                for (int distance : new int[] {4, 5, -1, Integer.MIN_VALUE, Integer.MAX_VALUE}) {
                    Due.outside("distance " + distance, () -> promise == 11 ? x.mode(distance) : x.turn(distance, 0));
                }
                Due.same("the last one", promise == 11 ? x.mode(3) : x.turn(3, 1), 0);
            });
        }
    }

    private static void refuses(int promise, Call... calls) {
        Sentence.test(promise, "IllegalArgumentException: a number is none, or two are one.", () -> {
            for (int i = 0; i < calls.length; i++) {
                HalfOaths x = three();
                Call call = calls[i];
                Due.noNumber("call " + i, () -> call.on(x));
            }
        });
    }

    private static void noNumbers() {
        refuses(9, x -> x.reading(0, 3, 0), x -> x.reading(0, -1, 0));
        refuses(12, x -> x.hours(0), x -> x.hours(61));
        refuses(14, x -> x.stop(1, 5), x -> x.stop(1, -1));
        refuses(17, x -> x.guard(0, 10), x -> x.guard(0, -1));
        refuses(18, x -> x.noise(101), x -> x.noise(-1));
        refuses(19, x -> x.turn(3, 3), x -> x.turn(0, -1));
        refuses(20, x -> x.repeat(0, 0), x -> x.repeat(1, 1), x -> x.repeat(2, 2));
        refuses(22, x -> x.fence(0, 101), x -> x.fence(2, -1));
        refuses(23, x -> x.gainsay(0, 0), x -> x.gainsay(1, 1), x -> x.gainsay(2, 2));
        refuses(33, x -> x.odds(5), x -> x.odds(-1));
        refuses(37, x -> x.trial(61, true), x -> x.trial(-1, false));
        refuses(38, x -> x.span(61, true), x -> x.span(-1, false));
    }

    private static void noNumbersOnTheTape() {
        refuses(26, x -> Due.tape(x, 12, 0).whose(), x -> Due.tape(x, 0, 11).whose());
        refuses(27, x -> Due.tape(x, 12, 0).likely(), x -> Due.tape(x, 0, 11).likely());
        refuses(28, x -> Due.tape(x, 12, 0).ask(), x -> Due.tape(x, 0, 11).ask());
        refuses(29, x -> Due.tape(x, 0).coughs(5), x -> Due.tape(x, 10).coughs(5), x -> Due.tape(x, 1).coughs(100), x -> Due.tape(x, 1).coughs(-1));
        refuses(30, x -> Due.tape(x, 0).first(5), x -> Due.tape(x, 10).first(5), x -> Due.tape(x, 1).first(100), x -> Due.tape(x, 1).first(-1));
    }

    private static void cannotBe(int promise, Call... calls) {
        Sentence.test(promise, "IllegalStateException: it cannot be.", () -> {
            for (int i = 0; i < calls.length; i++) {
                HalfOaths x = three();
                Call call = calls[i];
                Due.cannotBe("call " + i, () -> call.on(x));
            }
        });
    }

    private static void cannotBe() {
        cannotBe(13, x -> x.begin(1), x -> x.begin(2));
        cannotBe(14, x -> x.stop(0, 0), x -> x.stop(2, 0), x -> x.stop(0, 1), x -> x.stop(2, 1));
        cannotBe(15, x -> x.finish(0), x -> x.finish(2));
        cannotBe(16, x -> x.retract(0), x -> x.retract(1));
        cannotBe(20, x -> x.repeat(1, 0), x -> x.repeat(2, 0));
    }

    private static void firstIs(int promise, Class<? extends RuntimeException> first, Call... calls) {
        Sentence.test(promise, "Of several exceptions the one told first is thrown;", () -> {
            for (int i = 0; i < calls.length; i++) {
                HalfOaths x = three();
                Call call = calls[i];
                Due.fails("call " + i, first, () -> call.on(x));
            }
        });
    }

    private static void firstOfTwo() {
        Class<? extends RuntimeException> outside = IndexOutOfBoundsException.class;
        firstIs(4, IllegalArgumentException.class, x -> {
            x.end(0);
            for (int text = 2; text <= 12; text++) {
                x.hills();
            }
            return Due.text(x, "noise").hills();
        });
        firstIs(7, outside, x -> x.person(3, 11), x -> x.person(-1, -1));
        firstIs(10, outside, x -> x.hold(3, 8), x -> x.hold(-1, -1));
        firstIs(17, outside, x -> x.guard(3, 10), x -> x.guard(-1, -1));
        firstIs(19, outside, x -> x.turn(4, 3), x -> x.turn(-1, -1));
        firstIs(22, outside, x -> x.fence(3, 101), x -> x.fence(-1, -1));
        firstIs(23, outside, x -> x.gainsay(3, 3), x -> x.gainsay(-1, -1));
    }

    private static void firstOfThree() {
        Class<? extends RuntimeException> outside = IndexOutOfBoundsException.class;
        Class<? extends RuntimeException> number = IllegalArgumentException.class;
        firstIs(9, outside, x -> x.reading(3, 0, 8), x -> x.reading(3, 99, 0), x -> x.reading(-1, -1, -1));
        firstIs(9, number, x -> x.reading(0, 3, 8), x -> x.reading(0, -1, -1));
        firstIs(14, outside, x -> x.stop(3, 5), x -> x.stop(-1, -1));
        firstIs(14, number, x -> x.stop(0, 5), x -> x.stop(2, -1));
        firstIs(20, outside, x -> x.repeat(3, 3), x -> x.repeat(1, 3), x -> x.repeat(2, -1));
        firstIs(20, number, x -> x.repeat(1, 1), x -> x.repeat(2, 2));
    }

    /** What there is to tell of hills, with the bytes on the TAPE (at most 20). */
    private static String all(HalfOaths x) {
        int bytes = 0;
        while (bytes < 20 && !x.end(20 - bytes)) {
            bytes++;
        }
        return State.of(x) + (20 - bytes) + " bytes";
    }

    private static void changesNothing(int promise, Call... calls) {
        Sentence.test(promise, "a call that throws changes nothing but the TAPE, where it is used up", () -> {
            String before = all(three());
            HalfOaths kept = three();
            kept.back();
            String image = State.of(kept);
            for (int i = 0; i < calls.length; i++) {
                HalfOaths x = three();
                Due.same("call " + i + " throws", thrown(calls[i], x), true);
                Due.same("all behind call " + i, all(x), before);
                Due.same("fault behind call " + i, x.fault(), -1);
                Due.same("the latest act is the one ahead", x.undo() && x.count(4) == 3 && x.count(9) == 3, true);
                Due.same("an image is kept", x.back(), true);
                Due.same("the image behind call " + i, State.of(x), image);
            }
        });
    }

    private static boolean thrown(Call call, HalfOaths x) {
        try {
            call.on(x);
            return false;
        } catch (RuntimeException e) {
            return true;
        }
    }

    private static void nothingChanges() {
        changesNothing(7, x -> x.person(3, 0), x -> x.person(0, 11));
        changesNothing(8, x -> x.word(3, 0, true));
        changesNothing(9, x -> x.reading(3, 0, 0), x -> x.reading(0, 4, 0), x -> x.reading(0, 0, 8));
        changesNothing(10, x -> x.hold(3, 0), x -> x.hold(2, 8));
        changesNothing(11, x -> x.mode(4));
        changesNothing(34, x -> x.most(3));
        changesNothing(35, x -> x.which(3));
        changesNothing(40, x -> x.log(0, 5));
    }

    private static void nothingChangesByActs() {
        changesNothing(12, x -> x.hours(0), x -> x.hours(61));
        changesNothing(13, x -> x.begin(3), x -> x.begin(1), x -> x.begin(2));
        changesNothing(14, x -> x.stop(3, 0), x -> x.stop(1, 5), x -> x.stop(0, 0), x -> x.stop(2, 1));
        changesNothing(15, x -> x.finish(3), x -> x.finish(0), x -> x.finish(2));
        changesNothing(16, x -> x.retract(3), x -> x.retract(0), x -> x.retract(1));
        changesNothing(17, x -> x.guard(3, 0), x -> x.guard(0, 10), x -> x.guard(0, -1));
        changesNothing(18, x -> x.noise(101), x -> x.noise(-1));
        changesNothing(19, x -> x.turn(4, 0), x -> x.turn(0, 3), x -> x.turn(0, -1));
        changesNothing(20, x -> x.repeat(3, 0), x -> x.repeat(0, 3), x -> x.repeat(0, 0), x -> x.repeat(1, 0), x -> x.repeat(2, 0));
    }

    private static void nothingChangesBySearches() {
        changesNothing(21, x -> x.order(3, -1));
        changesNothing(22, x -> x.fence(3, 0), x -> x.fence(0, 101));
        changesNothing(23, x -> x.gainsay(3, 0), x -> x.gainsay(0, 0));
        changesNothing(31, x -> x.pairs(3));
        changesNothing(32, x -> x.rests(3));
        changesNothing(33, x -> x.odds(5));
        changesNothing(37, x -> x.trial(61, true));
        changesNothing(38, x -> x.span(61, true));
        changesNothing(39, x -> x.led(3, true));
    }

    private static void usesUp(int promise, String sentence, int fault, Call... calls) {
        Sentence.test(promise, sentence, () -> {
            String before = State.of(three()) + "0 bytes";
            for (int i = 0; i < calls.length; i++) {
                HalfOaths x = three();
                Due.same("call " + i + " throws", thrown(calls[i], x), true);
                Due.same("all behind call " + i, all(x), before);
                Due.same("fault behind call " + i, x.fault(), fault);
                Due.same("the latest act is the one ahead", x.undo() && x.count(4) == 3 && x.count(9) == 3, true);
                Due.same("an image is kept", x.back() && x.which(1) == 6, true);
            }
        });
    }

    private static void nothingChangesByTexts() {
        String sentence = "a call that throws changes nothing but the TAPE, where it is used up, and fault(), where a text is read (also by one that is refused).";
        usesUp(4, sentence, 0, HalfOaths::hills, x -> Due.text(x, "go").hills());
        usesUp(4, sentence, 16, x -> Due.text(x, "noise 1;oath go;gone").hills(), x -> Due.text(x, "oath wed;hour 5 5").hills());
        usesUp(5, sentence, 0, HalfOaths::law, x -> Due.text(x, "go").law());
        usesUp(5, sentence, 14, x -> Due.text(x, "ease 1;ease 2;5").law(), x -> Due.text(x, "weigh 2 if sum").law());
    }

    private static void nothingChangesByAThirteenth() {
        Sentence.test(4, "a call that throws changes nothing but the TAPE, where it is used up, and fault(), where a text is read (also by one that is refused).", () -> {
            HalfOaths x = three();
            x.end(0);
            for (int text = 2; text <= 12; text++) {
                x.hills();
            }
            x.noise(44);
            String before = State.of(x);
            Due.fails("a thirteenth", UnsupportedOperationException.class, Due.text(x, "oath go;noise 5;mode 3 2;hour 7;ears 8")::hills);
            Due.same("all", all(x), before + "0 bytes");
            Due.same("the latest act is the one ahead", x.undo() && x.count(3) == 0, true);
            Due.same("an image is kept", x.back() && x.count(1) == 1, true);
        });
    }

    private static void nothingChangesByRows() {
        String sentence = "a call that throws changes nothing but the TAPE, where it is used up";
        usesUp(26, sentence, -1, HalfOaths::whose, x -> Due.tape(x, 0, 11).whose());
        usesUp(27, sentence, -1, HalfOaths::likely, x -> Due.tape(x, 0, 11).likely());
        usesUp(28, sentence, -1, HalfOaths::ask, x -> Due.tape(x, 0, 11).ask());
        usesUp(29, sentence, -1, x -> x.coughs(5), x -> Due.tape(x, 1, 2).coughs(100), x -> Due.tape(x, 1, 2).coughs(-1));
        usesUp(30, sentence, -1, x -> x.first(5), x -> Due.tape(x, 1, 2).first(100), x -> Due.tape(x, 1, 2).first(-1));
    }
}
