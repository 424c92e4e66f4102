/** Promises 1 to 6: a new object, the tape, the texts of the hills and of the law, and their first wrong byte. */
public final class TextsTest {
    public static void main(String[] args) {
        newObject();
        feed();
        end();
        hillsTexts();
        hillsFaults();
        twelveTexts();
        lawTexts();
        lawFaults();
        lawMeaning();
        fault();
        Due.close("TextsTest");
    }

    private static void newObject() {
        HalfOaths x = new HalfOaths();
        int[] due = {0, 0, -1, 20, 0, 0, 0, 0, 0, 0};
        for (int what = 0; what < due.length; what++) {
            Due.same("1: count " + what, x.count(what), due[what]);
        }
        for (int distance = 0; distance < 4; distance++) {
            Due.same("1: mode", x.mode(distance), 0);
        }
        Due.same("1: fault", x.fault(), HalfOaths.NONE);
        Due.same("1: seed", x.seed(5), 1);
        Due.same("1: log", x.log(0, 0), -1);
        Due.same("1: undo", x.undo(), false);
        Due.same("1: back", x.back(), false);
        Due.same("1: which", x.which(0), 0);
        Due.same("1: most", x.most(0), -1);
        Due.same("1: pairs", x.pairs(-1), 0);
        Due.outside("1: person", () -> x.person(0, 0));
    }

    private static void feed() {
        HalfOaths x = new HalfOaths();
        for (int i = 1; i <= 20; i++) {
            Due.same("2: feed", x.feed(i, 0, -1, Integer.MIN_VALUE, 7), 20 * i);
        }
        Due.same("2: a tape that is full", x.feed(1, 2, 3, 4, 5), -1);
        Due.same("2: nothing came", x.end(400), true);
        Due.same("2: nothing came", x.end(401), false);
        x.end(381);
        Due.same("2: 401 would be too many", x.feed(1, 2, 3, 4, 5), -1);
        x.end(380);
        Due.same("2: 400 are not", x.feed(1, 2, 3, 4, 5), 400);
        HalfOaths y = new HalfOaths();
        y.feed(0x02090909, 0, 0, 0, 0);
        y.end(1);
        Due.same("2: the highest byte of a number is the first", y.first(4), 2);
        y.feed(0, 0x00000004, 0x03000000, 0, 0);
        y.end(9);
        Due.noNumber("2: 0 is no cough", () -> y.first(3));
        y.feed(0xff000000, 0, 0, 0, 0);
        y.end(1);
        Due.noNumber("2: a byte is 0 to 255", () -> y.first(3));
    }

    private static void end() {
        HalfOaths x = new HalfOaths();
        Due.same("3: end 0 of nothing", x.end(0), true);
        Due.same("3: end 1 of nothing", x.end(1), false);
        x.feed(1, 1, 1, 1, 1);
        Due.same("3: more than there are", x.end(21), false);
        Due.same("3: below 0", x.end(-1), false);
        Due.same("3: nothing happened", x.end(20), true);
        Due.same("3: fewer", x.end(5), true);
        Due.same("3: what is gone is gone", x.end(6), false);
        Due.same("3: behind them", x.feed(1, 1, 1, 1, 1), 25);
    }

    private static void hillsTexts() {
        HalfOaths x = new HalfOaths();
        Due.text(x, "  oath give sum5to 007 if0 breath9guards 9;mode3 2; noise 100;hour 999 ; ears 999 ");
        Due.same("4: one text", x.hills(), 1);
        Due.same("4: the tape is used up", x.end(1), false);
        Due.same("4: words", x.person(0, 0), 4);
        Due.same("4: breath", x.person(0, 1), 9);
        Due.same("4: guards", x.person(0, 2), 9);
        Due.same("4: a number of three digits", x.word(0, 2, true), 7);
        Due.same("4: mode", x.mode(3), 2);
        Due.same("4: noise", x.count(3), 100);
        Due.same("4: hour", x.count(4), 999);
        Due.same("4: ears", x.count(5), 999);
        Due.text(x, "oath wed not by 3 if 4 open shut shut");
        Due.noNumber("4: a shut too many", x::hills);
        Due.text(x, "oath wed not by 3 if 4 open open open shut shut shut go guards 3;oath go breath 2");
        Due.same("4: texts stand one behind another", x.hills(), 2);
        Due.same("4: people", x.count(0), 3);
        Due.same("4: breath is 1 at first", x.person(1, 1), 1);
        Due.same("4: guards alone", x.person(1, 2), 3);
        Due.same("4: guards are 0 at first", x.person(2, 2), 0);
        Due.same("4: what is not told again stays", x.count(3), 100);
        Due.text(x, "    ");
        Due.same("4: blanks alone are a text", x.hills(), 3);
        HalfOaths y = Due.hills(lines("hour 1", 14));
        Due.same("4: fourteen lines", y.count(4), 1);
        HalfOaths z = Due.hills("oath go go go go go go go go go go go go guards 0;noise 0;mode 0 0");
        Due.same("4: twelve words", z.person(0, 0), 12);
        Due.same("4: noise 0", z.count(3), 0);
        kinds();
    }

    private static void kinds() {
        HalfOaths x = Due.hills("oath give go wed sum 1 if 2 not by 3 to 4 open shut");
        int[] numbers = {0, 0, 0, 1, 2, 0, 3, 4, 0, 0};
        for (int kind = 0; kind < 10; kind++) {
            Due.same("4: kind", x.word(0, kind, false), kind);
            Due.same("4: n", x.word(0, kind, true), numbers[kind]);
        }
    }

    private static String lines(String line, int n) {
        return line + (";" + line).repeat(n - 1);
    }

    private static void wrongHills(String text, int byteDue) {
        HalfOaths x = new HalfOaths();
        Due.text(x, text);
        Due.noNumber("4: " + text, x::hills);
        Due.same("6: " + text, x.fault(), byteDue);
        Due.same("4: used up " + text, x.end(1), false);
        int[] due = {0, 0, -1, 20, 0, 0, 0, 0, 0, 0};
        for (int what = 0; what < due.length; what++) {
            Due.same("4: nothing stays of " + text, x.count(what), due[what]);
        }
        for (int distance = 0; distance < 4; distance++) {
            Due.same("4: nothing stays of " + text, x.mode(distance), 0);
        }
    }

    private static void hillsFaults() {
        String good = "mode 0 1;noise 5;hour 3;ears 4;oath go;";
        wrongHills("oath", 4);
        wrongHills("oath  ", 6);
        wrongHills(good, good.length());
        wrongHills(good + "  ", good.length() + 2);
        wrongHills(good + "oath", good.length() + 4);
        wrongHills(good + ";", good.length());
        wrongHills(";", 0);
        wrongHills("  ;", 2);
        wrongHills("oathgo", 0);
        wrongHills("Oath go", 0);
        wrongHills("oath gO", 5);
        wrongHills("oath go,", 7);
        wrongHills("oath go\n", 7);
        wrongHills("oath go\u00e9", 7);
        wrongHills("oath 5", 5);
        wrongHills("oath sum", 8);
        wrongHills("oath sum go", 9);
        wrongHills("oath give5", 9);
        wrongHills("oath sum 0005", 9);
        wrongHills("oath to 10", 8);
        wrongHills("oath if 10", 8);
        wrongHills("oath by 10", 8);
        wrongHills("oath sum 5 5", 11);
        wrongHills("oath breath 2", 5);
        wrongHills("oath go breath", 14);
        wrongHills("oath go breath 0", 15);
        wrongHills("oath go breath 10", 15);
        wrongHills("oath go guards 2 breath 2", 17);
        wrongHills("oath go breath 2 breath 2", 17);
        wrongHills("oath go breath 2 go", 17);
        wrongHills("oath go guards 10", 15);
        wrongHills("oath go go go go go go go go go go go go xyz", 41);
        wrongHills("oath go go go go go go go go go go go go go", 41);
        wrongHills("oath go go go go go go go go go go go open shut", 43);
        wrongHills("oath shut", 5);
        wrongHills("oath open shut shut", 15);
        wrongHills("oath open open open give open", 25);
        wrongHills("oath open give ; hour 5", 15);
        wrongHills("oath open give   ", 17);
        wrongHills("oath open give guards 77", 15);
        wrongHills("oath open give weigh", 15);
        wrongHills("mode 4 0", 5);
        wrongHills("mode 3 3", 7);
        wrongHills("mode 01", 7);
        wrongHills("mode 0", 6);
        wrongHills("mode", 4);
        wrongHills("noise 101", 6);
        wrongHills("noise x", 6);
        wrongHills("hour 1000", 5);
        wrongHills("ears 1000", 5);
        wrongHills("ears -1", 5);
        wrongHills("hour 5 6", 7);
        wrongHills("give", 0);
        wrongHills("weigh 5", 0);
        wrongHills(lines("hour 1", 15), 14 * 7);
        wrongHills(lines("hour 1", 14) + ";", 14 * 7);
        wrongHills(lines("hour 1", 14) + ";xyz", 14 * 7);
        wrongHills(lines("oath go", 7), 6 * 8);
        HalfOaths x = Due.hills(lines("oath go", 4));
        Due.text(x, "hour 5;" + lines("oath go", 3));
        Due.noNumber("4: a seventh person of two texts", x::hills);
        Due.same("6: at its first word", x.fault(), 7 + 16);
        Due.same("4: nothing of it stays", x.count(4), 0);
        Due.same("4: nobody of it stays", x.count(0), 4);
        Due.text(x, lines("oath go", 2));
        Due.same("4: six people", x.hills(), 2);
        Due.same("4: six people", x.count(0), 6);
    }

    private static void twelveTexts() {
        HalfOaths x = new HalfOaths();
        for (int i = 1; i <= 12; i++) {
            Due.text(x, "hour " + i);
            Due.same("4: texts", x.hills(), i);
        }
        Due.text(x, "oath go;oath");
        Due.noNumber("4: a thirteenth that is wrong", x::hills);
        Due.same("6: of one that is refused", x.fault(), 12);
        Due.text(x, "oath go;hour 99");
        Due.fails("4: a thirteenth", UnsupportedOperationException.class, x::hills);
        Due.same("6: a right one that is refused", x.fault(), -1);
        Due.same("4: the tape is used up all the same", x.end(1), false);
        Due.same("4: nothing of it stays", x.count(0), 0);
        Due.same("4: nothing of it stays", x.count(4), 12);
        Due.same("4: texts", x.count(1), 12);
    }

    private static void lawTexts() {
        HalfOaths x = new HalfOaths();
        Due.text(x, "weigh 5");
        Due.same("5: one line", x.law(), 1);
        Due.same("45: lines", x.count(2), 1);
        Due.same("5: the tape is used up", x.end(1), false);
        Due.text(x, " weigh 0 ;ease 40if whole;hear 040 if not(sum+1+by<999 or empty)and turned ");
        Due.same("5: in place of the one before", x.law(), 3);
        Due.same("45: lines", x.count(2), 3);
        Due.text(x, "ease 5;");
        Due.noNumber("5: a wrong one", x::law);
        Due.same("5: the one before stays", x.count(2), 3);
        Due.text(x, lines("ease 5", 12));
        Due.same("5: twelve lines", x.law(), 12);
        Due.text(x, "  ");
        Due.same("5: no line", x.law(), 0);
        Due.same("45: a law without lines", x.count(2), 0);
        Due.same("5: a law is no text of the hills", x.count(1), 0);
        Due.text(x, "weigh 1 if ((((((whole))))))");
        Due.same("5: six deep", x.law(), 1);
        Due.text(x, "weigh 1 if not(not(not(whole)))and not(not(not(whole)))or((((((1<2))))))");
        Due.same("5: six deep, one behind another", x.law(), 1);
    }

    private static void wrongLaw(String text, int byteDue) {
        HalfOaths x = new HalfOaths();
        Due.text(x, text);
        Due.noNumber("5: " + text, x::law);
        Due.same("6: " + text, x.fault(), byteDue);
        Due.same("5: used up " + text, x.end(1), false);
        Due.same("5: no law stays of " + text, x.count(2), -1);
    }

    private static void lawFaults() {
        wrongLaw("weigh", 5);
        wrongLaw("weigh x", 6);
        wrongLaw("weigh 41", 6);
        wrongLaw("ease 0040", 5);
        wrongLaw("hear 5 when whole", 7);
        wrongLaw("weigh 5 if", 10);
        wrongLaw("weigh 5 if;", 10);
        wrongLaw("weigh 5 if whole whole", 17);
        wrongLaw("weigh 5 if whole or", 19);
        wrongLaw("weigh 5 if whole and or", 21);
        wrongLaw("weigh 5 if not", 14);
        wrongLaw("weigh 5 if ()", 12);
        wrongLaw("weigh 5 if (whole", 17);
        wrongLaw("weigh 5 if (whole;", 17);
        wrongLaw("weigh 5 if whole)", 16);
        wrongLaw("weigh 5 if sum", 14);
        wrongLaw("weigh 5 if sum + < 5", 17);
        wrongLaw("weigh 5 if sum < ", 17);
        wrongLaw("weigh 5 if sum < whole", 17);
        wrongLaw("weigh 5 if sum < 5 < 6", 19);
        wrongLaw("weigh 5 if sum = 5", 15);
        wrongLaw("weigh 5 if sum < 1000", 17);
        wrongLaw("weigh 5 if (sum) < 5", 15);
        wrongLaw("weigh 5 if give < 5", 11);
        wrongLaw("weigh 5 if if < 5", 11);
        wrongLaw("weigh 5 if ifs5", 14);
        wrongLaw("weigh 5 if 5 or whole", 13);
        wrongLaw("oath go", 0);
        wrongLaw("weigh 5;", 8);
        wrongLaw("weigh 5;;", 8);
        wrongLaw("weigh 5 ease 6", 8);
        wrongLaw("weigh 5 if not not not not not not not whole", 35);
        wrongLaw("weigh 5 if (((((((whole)))))))", 17);
        wrongLaw("weigh 5 if not(not(not(not whole)))", 23);
        wrongLaw("weigh 5 if (((not not not (whole))))", 26);
        wrongLaw(lines("ease 5", 13), 12 * 7);
        wrongLaw(lines("ease 5", 12) + ";", 12 * 7);
    }

    private static void holds(String condition, int want) {
        // 8 of 9 words count: turned, give, sum 7, one if, by 3, two tos
        HalfOaths x = Due.hills("oath go;oath not give sum 7 if 1 by 3 to 2 to 5 to 5 wed", "hear 9 if " + condition);
        Due.same("5: " + condition, x.reading(1, 8, 7) - 1, want == 1 ? 9 : 0);
    }

    private static void lawMeaning() {
        holds("person < 2", 1);
        holds("person < 1", 0);
        holds("person > 0", 1);
        holds("verb < 2 and verb > 0", 1);
        holds("sum < 8 and sum > 6", 1);
        holds("ifs < 2 and ifs > 0", 1);
        holds("by < 4 and by > 2", 1);
        holds("tos < 3 and tos > 1", 1);
        holds("count < 9 and count > 7", 1);
        holds("whole", 0);
        holds("turned", 1);
        holds("empty", 0);
        holds("not empty", 1);
        holds("not whole and empty", 0);
        holds("not (whole and empty)", 1);
        holds("turned or turned and empty", 1);
        holds("(turned or turned) and empty", 0);
        holds("empty and turned or turned", 1);
        holds("sum + by + 1 > 10 and sum + by + 1 < 12", 1);
        holds("999 > sum", 1);
        holds("sum < 7", 0);
        holds("sum > 7", 0);
        holds("0 + 0 < 0 + 1", 1);
        HalfOaths x = Due.hills("oath give sum 5", "weigh 40;weigh 40 if whole;ease 3;ease 20 if whole;hear 2;hear 3 if whole");
        Due.same("5: of an empty reading nothing weighs", x.reading(0, 0, 6), 0);
        Due.same("5: hear of an empty reading, too", x.reading(0, 0, 7), 3);
        Due.same("5: weigh and ease", x.reading(0, 1, 6), 37);
        Due.same("5: weigh and ease, whole", x.reading(0, 2, 6), 5 + 80 - 23);
        Due.same("5: hear", x.reading(0, 2, 7), 6);
        HalfOaths y = Due.hills("oath give sum 5", "ease 6");
        Due.same("5: 0 at least", y.reading(0, 2, 6), 0);
        HalfOaths z = Due.hills("oath go", "hear 1 if verb < 1;hear 2 if by > 9;hear 4 if whole;hear 8 if empty");
        Due.same("5: by of none, no verb, no word", z.reading(0, 0, 7), 12);
        Due.same("5: a whole reading", z.reading(0, 1, 7), 7);
    }

    private static void fault() {
        HalfOaths x = new HalfOaths();
        Due.same("6: ahead of any", x.fault(), -1);
        Due.text(x, "goat");
        Due.noNumber("6", x::hills);
        Due.same("6: the first byte", x.fault(), 0);
        Due.text(x, "hear");
        Due.noNumber("6", x::law);
        Due.same("6: of the latest text", x.fault(), 4);
        Due.tape(x, 99);
        Due.noNumber("6", x::whose);
        Due.same("6: rows are no text", x.fault(), 4);
        Due.text(x, "hear 1");
        x.law();
        Due.same("6: of a right one", x.fault(), -1);
    }
}
