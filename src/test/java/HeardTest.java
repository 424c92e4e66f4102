/** Promises 26 to 30: whose oath it was by words that were heard, and coughs. */
public final class HeardTest {
    private static final String PEOPLE =
        "oath give sum 1 to 2;oath give sum 3 if 4;oath wed if 1 not;oath give sum 9 to 1 go;oath go";

    public static void main(String[] args) {
        whose();
        likely();
        ask();
        wrongRows();
        coughs();
        everyCough();
        wrongCoughs();
        Due.close("HeardTest");
    }

    private static void whose() {
        HalfOaths x = Due.hills(PEOPLE);
        Due.same("26: no rows", Due.tape(x).whose(), 31);
        Due.same("26: one row may be wrong", Due.tape(x, 0, 0).whose(), 31);
        Due.same("26: two rows", Due.tape(x, 0, 0, 1, 3).whose(), 11);
        Due.same("26: two rows", Due.tape(x, 0, 0, 2, 7).whose(), 11);
        Due.same("26: three rows", Due.tape(x, 0, 0, 1, 3, 2, 7).whose(), 11);
        Due.same("26: there is no word", Due.tape(x, 1, 10, 2, 10).whose(), 16);
        Due.same("26: there is no word at the last place", Due.tape(x, 11, 10, 3, 10, 0, 0).whose(), 31 & ~0);
        Due.same("26: a row twice", Due.tape(x, 3, 1, 3, 1).whose(), 8);
        Due.same("26: nobody", Due.tape(x, 0, 9, 0, 9).whose(), 0);
        Due.same("26: the tape is used up", x.end(1), false);
        Due.same("26: of nobody", Due.tape(new HalfOaths(), 0, 0).whose(), 0);
        int[] many = new int[40];
        Due.same("26: forty bytes", Due.tape(x, many).whose(), 11);
    }

    private static void likely() {
        HalfOaths x = Due.hills(PEOPLE);
        Due.same("27: no rows", Due.tape(x).likely(), 0);
        Due.same("27: of several the least", Due.tape(x, 0, 0, 2, 7).likely(), 0);
        Due.same("27: the fewest wrong rows", Due.tape(x, 0, 0, 2, 4).likely(), 1);
        Due.same("27: the fewest wrong rows", Due.tape(x, 0, 0, 3, 1).likely(), 3);
        Due.same("27: the fewest wrong rows", Due.tape(x, 0, 1).likely(), 4);
        Due.same("27: one wrong row fits", Due.tape(x, 0, 9).likely(), 0);
        Due.same("27: one wrong row fits, the least of several", Due.tape(x, 0, 2, 1, 10).likely(), 2);
        Due.same("27: two wrong rows fit nobody", Due.tape(x, 0, 9, 0, 9).likely(), -1);
        Due.same("27: two wrong rows fit nobody", Due.tape(x, 0, 9, 11, 0).likely(), -1);
        Due.same("27: of those with two wrong rows none, the one with one", Due.tape(x, 0, 1, 1, 10, 2, 0).likely(), 4);
        int[] wrong = new int[40];
        Due.same("27: twenty rows, all wrong but of those who give", Due.tape(x, wrong).likely(), 0);
        Due.same("27: twenty wrong rows", Due.tape(Due.hills("oath go"), wrong).likely(), -1);
        fitsAsWhose();
        Due.same("27: the tape is used up", x.end(1), false);
        Due.same("27: of nobody", Due.tape(new HalfOaths(), 0, 0).likely(), -1);
    }

    /** LIKELY is one of those that WHOSE tells, and none just if that tells nobody. */
    private static void fitsAsWhose() {
        for (int rows = 0; rows < 12 * 11 * 11; rows++) {
            HalfOaths x = Due.hills(PEOPLE);
            int[] tape = {rows % 12, rows / 12 % 11, 1, rows / 132};
            int fitting = Due.tape(x, tape).whose();
            int likely = Due.tape(x, tape).likely();
            Due.same("27: one that fits " + rows, likely < 0 ? fitting == 0 : (fitting >> likely & 1) == 1, true);
        }
    }

    private static void ask() {
        HalfOaths x = Due.hills(PEOPLE);
        // place 0: 3 alike; 1: 3; 2: to, if, not, to, none: 2
        Due.same("28: all fit", Due.tape(x).ask(), 2);
        Due.same("28: two fit, of several the least", Due.tape(x, 3, 10, 3, 10, 0, 0, 0, 0, 1, 3).ask(), 2);
        Due.same("28: one fits", Due.tape(x, 1, 10, 1, 10).ask(), -1);
        Due.same("28: nobody fits", Due.tape(x, 0, 9, 0, 9).ask(), -1);
        Due.same("28: the tape is used up", x.end(1), false);
        HalfOaths like = Due.hills("oath go by 1;oath go by 2");
        Due.same("28: alike by kinds", Due.tape(like).ask(), 0);
        HalfOaths late = Due.hills("oath go by 1;oath go by 2 not");
        Due.same("28: by a word that there is not", Due.tape(late).ask(), 2);
        HalfOaths six = Due.hills(Due.lines("oath go go", 5) + ";oath go give");
        Due.same("28: one of six is told apart", Due.tape(six).ask(), 1);
        Due.same("28: of nobody", Due.tape(new HalfOaths()).ask(), -1);
    }

    private static void wrongRows() {
        int[][] wrong = {{0}, {0, 0, 1}, {12, 0}, {0, 11}, {0, 0, 0, 255}, {255, 0}, new int[42], new int[41], new int[39]};
        for (int[] tape : wrong) {
            HalfOaths x = Due.hills(PEOPLE);
            Due.noNumber("26: " + tape.length + " bytes", () -> Due.tape(x, tape).whose());
            Due.same("26: used up all the same", x.end(1), false);
            Due.noNumber("27: " + tape.length + " bytes", () -> Due.tape(x, tape).likely());
            Due.same("27: used up all the same", x.end(1), false);
            Due.noNumber("28: " + tape.length + " bytes", () -> Due.tape(x, tape).ask());
            Due.same("28: used up all the same", x.end(1), false);
        }
    }

    private static void isFirst(int n, int due, boolean wins, int... numbers) {
        HalfOaths x = new HalfOaths();
        Due.same("29: " + n, Due.tape(x, numbers).coughs(n), wins);
        Due.same("29: the tape is used up", x.end(1), false);
        Due.same("30: " + n, Due.tape(x, numbers).first(n), due);
        Due.same("30: the tape is used up", x.end(1), false);
    }

    private static void coughs() {
        isFirst(0, -1, true);
        isFirst(99, -1, true);
        isFirst(0, -1, true, 1, 2);
        isFirst(1, -1, false, 1);
        isFirst(1, -1, true, 2);
        isFirst(2, -1, false, 2);
        isFirst(2, 1, true, 1);
        isFirst(3, 2, true, 1, 2);
        isFirst(4, -1, false, 1, 2, 1, 2, 1, 2);
        isFirst(5, 1, true, 2, 1);
        isFirst(9, -1, false, 9);
        isFirst(99, 2, true, 1, 2, 3);
        isFirst(97, -1, false, 3, 2, 1);
    }

    private static int firstOf(int n, int... numbers) {
        boolean[] wins = new boolean[n + 1];
        int taken = -1;
        for (int left = 0; left <= n; left++) {
            boolean can = false;
            taken = -1;
            for (int number = 9; number >= 1; number--) {
                for (int told : numbers) {
                    if (told == number && number <= left) {
                        can = true;
                        taken = wins[left - number] ? taken : number;
                    }
                }
            }
            wins[left] = !can || taken > 0;
        }
        return wins[n] && taken < 0 ? 0 : taken;
    }

    private static void everyCough() {
        for (int set = 0; set < 512; set++) {
            if (Integer.bitCount(set) <= 6) {
                int[] numbers = java.util.stream.IntStream.empty().toArray();
                for (int i = 9; i >= 1; i--) {
                    if ((set >> i - 1 & 1) != 0) {
                        numbers = java.util.Arrays.copyOf(numbers, numbers.length + 1);
                        numbers[numbers.length - 1] = i;
                    }
                }
                for (int n = 0; n <= 99; n += 1 + set % 7) {
                    int due = firstOf(n, numbers);
                    isFirst(n, due > 0 ? due : -1, due >= 0, numbers);
                }
            }
        }
    }

    private static void wrongCoughs() {
        int[][] wrong = {{0}, {10}, {1, 2, 3, 4, 5, 6, 7}, {1, 255}, {17}};
        for (int[] tape : wrong) {
            HalfOaths x = new HalfOaths();
            Due.noNumber("29", () -> Due.tape(x, tape).coughs(5));
            Due.same("29: used up all the same", x.end(1), false);
            Due.noNumber("30", () -> Due.tape(x, tape).first(5));
            Due.same("30: used up all the same", x.end(1), false);
        }
        HalfOaths x = new HalfOaths();
        Due.noNumber("29", () -> Due.tape(x, 1).coughs(100));
        Due.same("29: used up all the same", x.end(1), false);
        Due.noNumber("29", () -> Due.tape(x, 1).coughs(-1));
        Due.noNumber("30", () -> Due.tape(x, 1).first(100));
        Due.noNumber("30", () -> Due.tape(x, 1).first(-1));
        Due.same("30: used up all the same", x.end(1), false);
    }
}
