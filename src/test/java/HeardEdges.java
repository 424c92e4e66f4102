import java.util.function.ToIntFunction;

/** Sentences of promises 26 to 30: WHOSE, LIKELY, ASK, COUGHS and FIRST. */
final class HeardEdges {
    private static final String PEOPLE =
        "oath go by 1 by 2;oath go by 1;oath go;oath wed by 1 by 2;oath go go go go go go go go go go not to 5";

    private HeardEdges() {
    }

    static void run() {
        rows();
        whose();
        likely();
        ask();
        breathsAndNumbers();
        lastOne();
        cannot();
        first();
    }

    private static void bytesOfRows(ToIntFunction<HalfOaths> reader) {
        int[][] wrong = {{0}, {0, 0, 0}, {12, 0}, {0, 11}, {0, 0, 255, 0}, {0, 0, 0, 255}, new int[39], new int[41], new int[42], new int[400]};
        for (int[] tape : wrong) {
            HalfOaths x = Due.hills(PEOPLE);
            Due.noNumber(tape.length + " bytes", () -> reader.applyAsInt(Due.tape(x, tape)));
            Due.same("used up", x.end(1), false);
        }
        HalfOaths x = Due.hills(PEOPLE);
        int[] forty = new int[40];
        for (int i = 0; i < 20; i++) {
            forty[2 * i] = i % 12;
            forty[2 * i + 1] = i % 11;
        }
        Due.tape(x, forty);
        reader.applyAsInt(x);
        Due.same("forty bytes of all places and kinds are rows, and used up", x.end(1), false);
    }

    private static void rows() {
        Sentence.test(26, "Uses the TAPE up: WHOSE (of each two bytes: the place 0 to 11, the KIND 0 to 10; at most 40 bytes), as bits. "
            + "IllegalArgumentException: the TAPE is not that (none may be told).", () -> {
            bytesOfRows(HalfOaths::whose);
            HalfOaths x = Due.hills(PEOPLE);
            Due.same("none are told", Due.tape(x).whose(), 31);
            Due.same("place 0, kind 0", Due.tape(x, 0, 0).whose(), 31);
            Due.same("twenty rows", Due.tape(x, new int[40]).whose(), 0);
            Due.same("nobody there", new HalfOaths().whose(), 0);
        });
        Sentence.test(27, "Uses the TAPE up: LIKELY (the TAPE as for WHOSE); NONE. IllegalArgumentException: the TAPE is not that.", () -> {
            bytesOfRows(HalfOaths::likely);
            HalfOaths x = Due.hills(PEOPLE);
            Due.same("none are told", Due.tape(x).likely(), 0);
            Due.same("twenty rows", Due.tape(x, new int[40]).likely(), -1);
            Due.same("nobody there", new HalfOaths().likely(), -1);
        });
        Sentence.test(28, "Uses the TAPE up: ASK (the TAPE as for WHOSE); NONE. IllegalArgumentException: the TAPE is not that.", () -> {
            bytesOfRows(HalfOaths::ask);
            HalfOaths x = Due.hills(PEOPLE);
            Due.same("none are told", Due.tape(x).ask(), 2);
            Due.same("twenty rows", Due.tape(x, new int[40]).ask(), -1);
            Due.same("nobody there", new HalfOaths().ask(), -1);
        });
    }

    private static void whose() {
        Sentence.test(26, "WHOSE: told are rows: a place (0 to 11) and a KIND (0 to 9; 10: there is no WORD): "
            + "OATHS of which all rows are so, but for one at most, as bits;", () -> {
            HalfOaths x = Due.hills(PEOPLE);
            Due.same("one wrong row", Due.tape(x, 0, 9).whose(), 31);
            Due.same("two wrong rows", Due.tape(x, 0, 9, 0, 9).whose(), 0);
            Due.same("one or none wrong of two", Due.tape(x, 0, 1, 1, 6).whose(), 31);
            Due.same("none, one or two wrong of three", Due.tape(x, 0, 1, 1, 6, 2, 6).whose(), 11);
            Due.same("there is no word behind two", Due.tape(x, 2, 10, 2, 10).whose(), 6);
            Due.same("there is no word behind one", Due.tape(x, 1, 10, 1, 10).whose(), 4);
            Due.same("none at the last place", Due.tape(x, 11, 10, 11, 10).whose(), 15);
            Due.same("one at the last place", Due.tape(x, 11, 7, 11, 7).whose(), 16);
            Due.same("there is a word at the first place", Due.tape(x, 0, 10, 0, 10).whose(), 0);
            Due.same("a row twice", Due.tape(x, 0, 2, 0, 2).whose(), 8);
        });
    }

    private static void likely() {
        Sentence.test(27, "LIKELY: the one of the fewest wrong rows (of several the least); none;", () -> {
            HalfOaths x = Due.hills(PEOPLE);
            Due.same("no wrong row, of several the least", Due.tape(x, 0, 1).likely(), 0);
            Due.same("no wrong row, of several the least", Due.tape(x, 2, 10).likely(), 1);
            Due.same("no wrong row, the last one", Due.tape(x, 11, 7, 10, 5).likely(), 4);
            Due.same("none is fewer than one", Due.tape(x, 0, 1, 1, 10).likely(), 2);
            Due.same("one wrong row, of several the least", Due.tape(x, 0, 9).likely(), 0);
            Due.same("one wrong row, just of one", Due.tape(x, 0, 2, 5, 9).likely(), 3);
            Due.same("two wrong rows of each", Due.tape(x, 0, 9, 5, 9).likely(), -1);
        });
    }

    private static void ask() {
        Sentence.test(28, "ASK: the place by whose KIND those that fit are parted so that the greatest part is the least "
            + "(of several the least; none with fewer than two).", () -> {
            HalfOaths x = Due.hills(PEOPLE);
            // by place 0: go 4, wed; by place 1: by 3, go, none; by place 2: by 2, none 2, go
            Due.same("five fit", Due.tape(x).ask(), 2);
            Due.same("two fit", Due.tape(x, 2, 10, 2, 10).ask(), 1);
            Due.same("one fits", Due.tape(x, 1, 10, 1, 10).ask(), -1);
            Due.same("nobody fits", Due.tape(x, 0, 9, 0, 9).ask(), -1);
            Due.same("one person", Due.hills("oath go").ask(), -1);
            Due.same("two persons", Due.hills("oath go;oath wed").ask(), 0);
            String eleven = "oath go go go go go go go go go go go";
            Due.same("the last place", Due.hills(eleven + " go;" + eleven).ask(), 11);
            Due.same("all alike, of several the least", Due.hills("oath go by 1;oath go by 2").ask(), 0);
            Due.same("of two the least", Due.hills("oath go by 1 not;oath go to 1 wed").ask(), 1);
            Due.same("kind 0 is a part, too", Due.hills("oath give go;oath give wed").ask(), 1);
            Due.same("kind 9 is a part, too", Due.hills("oath open shut go;oath open shut wed").ask(), 2);
            Due.same("one of three alone", Due.hills("oath go by 1;oath go not;oath go if 1").ask(), 1);
        });
    }

    private static void isCough(int n, boolean wins, int first, int... numbers) {
        HalfOaths x = new HalfOaths();
        Due.same("coughs of " + n, Due.tape(x, numbers).coughs(n), wins);
        Due.same("coughs used up", x.end(1), false);
        Due.same("first of " + n, Due.tape(x, numbers).first(n), first);
        Due.same("first used up", x.end(1), false);
    }

    private interface Cough {
        Object of(HalfOaths x, int n);
    }

    private static void refusesCoughs(Cough cough) {
        int[][] wrong = {{0}, {10}, {1, 2, 0}, {1, 2, 3, 4, 5, 255}, {1, 1, 1, 1, 1, 1, 1}, new int[20]};
        for (int[] tape : wrong) {
            HalfOaths x = new HalfOaths();
            Due.noNumber(tape.length + " bytes", () -> cough.of(Due.tape(x, tape), 5));
            Due.same("used up", x.end(1), false);
        }
        for (int n : new int[] {-1, 100, 101, Integer.MIN_VALUE, Integer.MAX_VALUE}) {
            HalfOaths x = new HalfOaths();
            Due.noNumber("n " + n, () -> cough.of(Due.tape(x, 1, 2), n));
            Due.same("used up", x.end(1), false);
            Due.noNumber("none told, n " + n, () -> cough.of(x, n));
        }
    }

    private static void breathsAndNumbers() {
        Sentence.test(29, "Uses the TAPE up: COUGHS. IllegalArgumentException: the TAPE is not that (none may be told), or N is none.", () -> {
            refusesCoughs(HalfOaths::coughs);
            HalfOaths x = new HalfOaths();
            for (int n : new int[] {0, 1, 50, 99}) {
                Due.same("none told", x.coughs(n), true);
            }
        });
        Sentence.test(30, "Uses the TAPE up: FIRST; NONE. IllegalArgumentException: the TAPE is not that (none may be told), or N is none.", () -> {
            refusesCoughs(HalfOaths::first);
            HalfOaths x = new HalfOaths();
            for (int n : new int[] {0, 1, 50, 99}) {
                Due.same("none told", x.first(n), -1);
            }
        });
        Sentence.test(29, "COUGHS: two rivals cough by turns in a row of N (0 to 99) breaths; who coughs takes as many of these as one of the numbers told says "
            + "(bytes 1 to 9, at most 6; no more than are left);", () -> {
            isCough(0, true, -1, 1, 9);
            isCough(98, true, 1, 1);
            isCough(99, false, -1, 1);
            isCough(98, true, 9, 9);
            isCough(99, false, -1, 9);
            isCough(99, true, 2, 3, 2, 1, 1, 2, 3);
            isCough(4, true, 1, 1, 5);
            isCough(3, false, -1, 1, 5);
            isCough(4, true, -1, 5, 6, 7, 8, 9);
        });
    }

    private static void lastOne() {
        Sentence.test(29, "who takes the last one has lost: whether the first one wins, both at their best (who cannot has won);", () -> {
            isCough(1, false, -1, 1);
            isCough(2, true, 1, 1);
            isCough(2, false, -1, 2);
            isCough(9, false, -1, 9);
            isCough(5, false, -1, 1, 2, 3);
            isCough(5, false, -1, 5, 1);
            isCough(4, true, 3, 1, 2, 3);
            isCough(0, true, -1);
            isCough(8, true, -1, 9);
            isCough(17, false, -1, 9);
            isCough(18, true, 9, 9);
        });
    }

    private static void cannot() {
        Sentence.test(30, "FIRST: how many it takes first so (of several the least); none, if it does not win, or cannot.", () -> {
            isCough(6, true, 1, 5, 1);
            isCough(3, true, 2, 1, 2);
            isCough(4, true, 3, 3, 2, 1);
            isCough(4, false, -1, 1, 2);
            isCough(3, true, -1, 4);
            isCough(0, true, -1, 1);
            isCough(99, true, -1);
        });
    }

    /** Beside the same found from every row of breaths up, the numbers one behind another. */
    private static void first() {
        Sentence.test(30, "FIRST: how many it takes first so (of several the least)", () -> {
            int[][] all = {{1, 2, 3, 4, 5, 6}, {9, 8, 7, 6, 5, 4}, {2, 5}, {3, 7}, {4}, {2, 4, 6, 8}, {1, 4, 9}, {9, 1}};
            for (int[] numbers : all) {
                int[] firsts = new int[100];
                for (int n = 0; n <= 99; n++) {
                    boolean can = false;
                    int first = 10;
                    for (int number : numbers) {
                        can |= number <= n;
                        first = number <= n && firsts[n - number] == 10 ? Math.min(first, number) : first;
                    }
                    firsts[n] = can ? first : 0;
                    isCough(n, firsts[n] < 10, firsts[n] % 10 == 0 ? -1 : first, numbers);
                }
            }
        });
    }
}
