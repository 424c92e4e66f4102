/** Sentences of promises 1 to 6: a new object, the TAPE, THE HILLS and THE LAW as texts, and their first wrong byte. */
final class TextEdges {
    private static final String TWELVE = "oath go go go go go go go go go go go go";

    private TextEdges() {
    }

    static void run() {
        newObject();
        tape();
        endOfTape();
        texts();
        wrongTexts();
        linesAndPeople();
        words();
        clauses();
        numbersOfHills();
        signs();
        law();
        conditions();
        numbersOfLaw();
        firstWrongByte();
        furtherWrongBytes();
        fault();
    }

    private static void newObject() {
        Sentence.test(1, "Hills of nobody.", () -> {
            HalfOaths x = new HalfOaths();
            for (int what : new int[] {0, 1, 6, 7, 8, 9}) {
                Due.same("count " + what, x.count(what), 0);
            }
            Due.outside("person 0", () -> x.person(0, 0));
            Due.same("held in 60 hours", x.hours(60), 0);
            for (int what = 0; what < 3; what++) {
                Due.same("which " + what, x.which(what), 0);
                Due.same("most " + what, x.most(what), -1);
            }
            Due.same("peace", x.peace(), 0);
            Due.same("quiet", x.quiet(), 0);
            Due.same("whose", x.whose(), 0);
            Due.same("likely", x.likely(), -1);
            Due.same("ask", x.ask(), -1);
            Due.same("pairs", x.pairs(-1), 0);
            Due.same("twins", x.twins(), 0);
            Due.same("odds", x.odds(4), 10000);
            Due.same("trial", x.trial(60, false), 0);
            Due.same("span", x.span(60, true), 0);
        });
        Sentence.test(1, "An object is used for at most 512 calls after it has been made", () -> {
            HalfOaths x = new HalfOaths();
            int before = 20;
            for (int call = 1; call <= 511; call++) {
                Due.same("call " + call, x.noise(call % 101), before);
                before = call % 101;
            }
            Due.same("call 512", x.count(3), 511 % 101);
        });
    }

    private static void tape() {
        Sentence.test(2, "Twenty bytes come behind the TAPE, of each number the highest first: how many it has", () -> {
            HalfOaths x = new HalfOaths();
            Due.same("20 bytes", x.feed(0x6f617468, 0x20676f20, 0x73756d20, 0x31207375, 0x6d203220), 20);
            Due.same("40 bytes", x.feed(0x73756d20, 0x33203b6e, 0x6f697365, 0x20372020, 0xffffffff), 40);
            Due.same("without the last four", x.end(36), true);
            Due.same("oath go sum 1 sum 2 sum 3 ;noise 7", x.hills(), 1);
            Due.same("the last word", x.word(0, 3, true), 3);
            Due.same("noise", x.count(3), 7);
            x.feed(0x20202020, 0x2020ff20, Integer.MIN_VALUE, -1, Integer.MAX_VALUE);
            Due.noNumber("bytes above 127", x::hills);
            Due.same("the first wrong one", x.fault(), 6);
        });
        Sentence.test(2, "NONE, and none come, if it would have more than 400.", () -> {
            HalfOaths x = new HalfOaths();
            for (int bytes = 20; bytes <= 400; bytes += 20) {
                Due.same("bytes", x.feed(0x20202020, 0x20202020, 0x20202020, 0x20202020, 0x20202020), bytes);
            }
            Due.same("420 bytes", x.feed(-1, -1, -1, -1, -1), -1);
            Due.same("none came", x.end(401), false);
            Due.same("all are there yet", x.end(381), true);
            Due.same("401 bytes", x.feed(-1, -1, -1, -1, -1), -1);
            Due.same("none came", x.end(382), false);
            Due.same("400 blanks are a text", x.hills(), 1);
            for (int bytes = 20; bytes <= 400; bytes += 20) {
                x.feed(0x20202020, 0x20202020, 0x20202020, 0x20202020, 0x20202020);
            }
            x.end(380);
            Due.same("just 400 bytes", x.feed(0x20202020, 0x20202020, 0x20202020, 0x20202020, 0x20202021), 400);
            Due.noNumber("the last of 400", x::hills);
            Due.same("the last of 400", x.fault(), 399);
        });
    }

    private static void endOfTape() {
        Sentence.test(3, "The TAPE has its first n bytes alone: true", () -> {
            HalfOaths x = new HalfOaths();
            Due.same("none of an empty one", x.end(0), true);
            Due.text(x, "noise 7noise 8");
            Due.same("seven", x.end(7), true);
            Due.same("the first seven", x.hills(), 1);
            Due.same("the first seven", x.count(3), 7);
            Due.text(x, "noise 100");
            Due.same("all", x.end(9), true);
            Due.same("all but one", x.end(8), true);
            Due.same("what is gone stays gone", x.end(9), false);
            x.hills();
            Due.same("noise 10", x.count(3), 10);
            Due.text(x, "noise 55");
            Due.same("none", x.end(0), true);
            Due.same("a text without a byte", x.hills(), 3);
            Due.same("noise 10", x.count(3), 10);
        });
        Sentence.test(3, "false, and nothing happens, if it has fewer, or n is below 0.", () -> {
            HalfOaths x = new HalfOaths();
            Due.same("one of an empty one", x.end(1), false);
            Due.same("below 0 of an empty one", x.end(-1), false);
            Due.text(x, "noise 7");
            for (int n : new int[] {8, 9, 20, 400, 401, Integer.MAX_VALUE, -1, -7, Integer.MIN_VALUE}) {
                Due.same("end " + n, x.end(n), false);
            }
            Due.same("all seven are there", x.hills(), 1);
            Due.same("noise 7", x.count(3), 7);
        });
    }

    private static void texts() {
        Sentence.test(4, "THE HILLS are told in texts (at most 12, one behind another)", () -> {
            HalfOaths x = new HalfOaths();
            for (int i = 1; i <= 12; i++) {
                Due.text(x, i % 2 == 0 ? "oath go by " + i / 2 : "hour " + i);
                Due.same("text " + i, x.hills(), i);
            }
            Due.same("people of six texts", x.count(0), 6);
            Due.same("the hour of another", x.count(4), 11);
            for (int person = 0; person < 6; person++) {
                Due.same("one behind another", x.word(person, 1, true), person + 1);
            }
            Due.text(x, "hour 13");
            Due.fails("text 13", UnsupportedOperationException.class, x::hills);
        });
        Sentence.test(4, "IllegalArgumentException: it is wrong; UnsupportedOperationException: there are 12.", () -> {
            HalfOaths x = new HalfOaths();
            for (int i = 1; i <= 12; i++) {
                Due.text(x, "hour");
                Due.noNumber("wrong with " + (i - 1), x::hills);
                x.hills();
            }
            Due.same("twelve, each without a byte", x.count(1), 12);
            String before = State.of(x);
            Due.text(x, "oath go;hour");
            Due.noNumber("wrong with 12", x::hills);
            Due.text(x, "");
            Due.fails("without a byte with 12", UnsupportedOperationException.class, x::hills);
            Due.text(x, "oath go;noise 3");
            Due.fails("right with 12", UnsupportedOperationException.class, x::hills);
            Due.same("all", State.of(x), before);
        });
        Sentence.test(4, "Uses the TAPE up: a text of THE HILLS: how many texts there are.", () -> {
            HalfOaths x = new HalfOaths();
            Due.same("a right one", Due.text(x, "oath go").hills(), 1);
            Due.same("used up", x.end(1), false);
            Due.noNumber("a wrong one", Due.text(x, "oath gone")::hills);
            Due.same("used up", x.end(1), false);
            Due.same("none but the right ones", x.hills(), 2);
        });
    }

    private static void wrongTexts() {
        Sentence.test(4, "Of a wrong text nothing stays.", () -> {
            HalfOaths x = Due.hills("oath go by 1;mode 0 1;noise 5;hour 6;ears 7", "weigh 3;hear 2");
            x.noise(6);
            String before = State.of(x);
            Due.noNumber("hills", Due.text(x, "oath wed if 3 breath 9 guards 9;mode 0 2;mode 3 2;noise 99;hour 99;ears 99;goat")::hills);
            Due.same("hills", State.of(x), before);
            Due.noNumber("an oath itself", Due.text(x, "oath wed breath 9 guards 10")::hills);
            Due.same("an oath itself", State.of(x), before);
            Due.text(x, "oath wed");
            x.hills();
            Due.same("of the next one", x.person(1, 1), 1);
            Due.same("of the next one", x.person(1, 2), 0);
            Due.same("of the next one", x.count(6), 3);
        });
        Sentence.test(5, "Of a wrong text nothing stays.", () -> {
            HalfOaths x = Due.hills("oath go by 1", "weigh 3;hear 2");
            String before = State.of(x);
            Due.noNumber("law", Due.text(x, "weigh 30;weigh 20;hear 9;")::law);
            Due.same("law", State.of(x), before);
            HalfOaths y = Due.hills("oath go by 1");
            Due.noNumber("a first one", Due.text(y, "weigh 30;weigh 20;weigh 41")::law);
            Due.same("no law", y.count(2), -1);
            Due.same("no weight", y.reading(0, 1, 6), 2);
        });
    }

    private static void linesAndPeople() {
        Sentence.test(4, "[ LINE { ; LINE } ], at most 14", () -> {
            Due.rightHills("");
            Due.rightHills("hour 1");
            Due.same("two", Due.rightHills("hour 1;noise 2").count(3), 2);
            Due.same("fourteen", Due.rightHills(Due.lines("hour 1", 13) + ";hour 2").count(4), 2);
            Due.wrongHills(Due.lines("hour 1", 15), 14 * 7);
            Due.wrongHills(Due.lines("hour 1", 14) + ";", 14 * 7);
            Due.wrongHills(";", 0);
            Due.wrongHills("hour 1;;hour 1", 7);
            Due.wrongHills("hour 1 hour 1", 7);
        });
        Sentence.test(4, "PEOPLE (at most 6, numbered from 0 on)", () -> {
            HalfOaths x = Due.rightHills("oath go;oath wed;oath give;oath go;oath wed;oath to 5");
            Due.same("six", x.count(0), 6);
            Due.same("the first", x.word(0, 0, false), 1);
            Due.same("the last", x.word(5, 0, true), 5);
            Due.outside("a seventh", () -> x.word(6, 0, false));
            Due.wrongHills(Due.lines("oath go", 7), 6 * 8);
            Due.noNumber("behind another text", Due.text(x, "hour 1;oath go")::hills);
            Due.same("behind another text", x.fault(), 7);
        });
    }

    private static void words() {
        Sentence.test(4, "OATH: one to twelve WORDS", () -> {
            Due.same("one", Due.rightHills("oath not").person(0, 0), 1);
            Due.same("twelve", Due.rightHills(TWELVE).person(0, 0), 12);
            Due.wrongHills("oath", 4);
            Due.wrongHills("oath;oath go", 4);
            Due.wrongHills("oath breath 2", 5);
            Due.wrongHills(TWELVE + " go", 41);
        });
        Sentence.test(4, "at most twelve, else it is wrong at the 13th one", () -> {
            Due.wrongHills(TWELVE + " sum 3 hour", 41);
            Due.wrongHills(TWELVE + "  shut", 42);
            Due.wrongHills("oath open go go go go go go go go go go shut open", 45);
            Due.same("twelve and what is behind", Due.rightHills(TWELVE + " breath 2;hour 3").count(4), 3);
            Due.same("twelve of all kinds", Due.rightHills("oath open open open shut shut shut sum 1 if 2 by 3 to 4 not wed")
                .word(0, 11, false), 2);
        });
        Sentence.test(4, "oath W { W } [ breath N ] [ guards N ] | mode N N | noise N | hour N | ears N.", () -> {
            Due.same("both", Due.rightHills("oath go breath 2 guards 3").person(0, 1), 2);
            Due.same("guards alone", Due.rightHills("oath go guards 3").person(0, 2), 3);
            Due.wrongHills("oath go guards 3 breath 2", 17);
            Due.wrongHills("oath go breath 2 breath 2", 17);
            Due.wrongHills("oath go guards 2 guards 2", 17);
            Due.wrongHills("oath go breath 2 guards 3 go", 26);
            Due.wrongHills("mode 1", 6);
            Due.wrongHills("mode 1 1 1", 9);
            Due.wrongHills("hour 1 1", 7);
            Due.wrongHills("breath 2", 0);
            Due.wrongHills("guards 2", 0);
        });
        Sentence.test(4, "(W: give, go, wed, sum N, if N, not, by N, to N, open, shut;", () -> {
            Due.rightHills("oath give go wed sum 0 if 0 not by 0 to 0 open shut");
            Due.wrongHills("oath sum", 8);
            Due.wrongHills("oath if not", 8);
            Due.wrongHills("oath by to 1", 8);
            Due.wrongHills("oath to;", 7);
            Due.wrongHills("oath not 1", 9);
            Due.wrongHills("oath open 1 shut", 10);
            Due.wrongHills("oath wed 1", 9);
        });
    }

    private static void clauses() {
        Sentence.test(4, "In an OATH each shut has an open ahead of it that is its own, each open a shut behind it; at most 3 within one another.", () -> {
            Due.rightHills("oath open shut");
            Due.rightHills("oath open shut open shut open shut open shut");
            Due.rightHills("oath open open open shut shut shut");
            Due.rightHills("oath open open open shut open shut shut shut");
            Due.wrongHills("oath shut open", 5);
            Due.wrongHills("oath open shut shut", 15);
            Due.wrongHills("oath open open shut", 19);
            Due.wrongHills("oath open shut open", 19);
            Due.wrongHills("oath open open open open shut shut shut shut", 20);
        });
        Sentence.test(4, "shut without its open, open as a 4th one within one another: wrong at it", () -> {
            Due.wrongHills("oath shut", 5);
            Due.wrongHills("oath go  shut go", 9);
            Due.wrongHills("oath open open shut shut shut", 25);
            Due.wrongHills("oath open open go open sum 3 open", 29);
            Due.wrongHills("oath open open open shut open open", 30);
            Due.wrongHills("oath go;oath open shut;oath shut", 28);
        });
        Sentence.test(4, "an open without its shut: wrong at what stands behind the last WORD, or at the text's length", () -> {
            Due.wrongHills("oath open", 9);
            Due.wrongHills("oath open  ", 11);
            Due.wrongHills("oath open sum 3", 15);
            Due.wrongHills("oath open open shut;hour 3", 19);
            Due.wrongHills("oath open go breath 2", 13);
            Due.wrongHills("oath open go guards 2", 13);
            Due.wrongHills("oath open go hour", 13);
            Due.wrongHills("oath open go 12345", 13);
            Due.wrongHills("oath open go go go go go go go go go go go", 42);
            Due.wrongHills("oath open go go go go go go go go go go go;", 42);
            Due.wrongHills("oath go;oath open ; hour 5", 18);
        });
    }

    private static void numbersOfHills() {
        Sentence.test(4, "BREATH 1 to 9 (1 at first)", () -> {
            Due.same("1", Due.rightHills("oath go breath 1").person(0, 1), 1);
            Due.same("9", Due.rightHills("oath go breath 9").person(0, 1), 9);
            Due.same("at first", Due.rightHills("oath go breath 5;oath go").person(1, 1), 1);
            Due.wrongHills("oath go breath 0", 15);
            Due.wrongHills("oath go breath 10", 15);
        });
        Sentence.test(4, "GUARDS 0 to 9 (0 at first)", () -> {
            Due.same("0", Due.rightHills("oath go guards 0").person(0, 2), 0);
            Due.same("9", Due.rightHills("oath go guards 9").person(0, 2), 9);
            Due.same("at first", Due.rightHills("oath go guards 5;oath go").person(1, 2), 0);
            Due.wrongHills("oath go guards 10", 15);
        });
        Sentence.test(4, "A WORD is of a KIND, with N 0 to 9 of some: give (0), go (1), wed (2): verbs; sum N (3), if N (4), not (5), "
            + "by N (6), to N (7), open (8), shut (9).", () -> {
            HalfOaths x = Due.rightHills("oath sum 0 if 0 by 0 to 0 sum 9 if 9 by 9 to 9");
            for (int k = 0; k < 8; k++) {
                Due.same("word " + k, x.word(0, k, true), k < 4 ? 0 : 9);
            }
            HalfOaths each = Due.rightHills("oath give go wed sum 1 if 2 not by 3 to 4 open shut");
            int[] numbers = {0, 0, 0, 1, 2, 0, 3, 4, 0, 0};
            for (int kind = 0; kind < 10; kind++) {
                Due.same("kind " + kind, each.word(0, kind, false), kind);
                Due.same("n of kind " + kind, each.word(0, kind, true), numbers[kind]);
            }
            Due.wrongHills("oath sum 10", 9);
            Due.wrongHills("oath if 10", 8);
            Due.wrongHills("oath by 10", 8);
            Due.wrongHills("oath to 999", 8);
        });
        Sentence.test(4, "mode: a DISTANCE 0 to 3 and 0 to 2", () -> {
            HalfOaths x = Due.rightHills("mode 0 2;mode 3 2;mode 2 1;mode 2 0");
            int[] due = {2, 0, 0, 2};
            for (int distance = 0; distance < 4; distance++) {
                Due.same("mode " + distance, x.mode(distance), due[distance]);
            }
            Due.wrongHills("mode 4 0", 5);
            Due.wrongHills("mode 3 3", 7);
        });
        Sentence.test(4, "hour, ears 0 to 999.)", () -> {
            Due.same("hour 0", Due.rightHills("hour 5;hour 0").count(4), 0);
            Due.same("hour 999", Due.rightHills("hour 999").count(4), 999);
            Due.same("ears 0", Due.rightHills("ears 5;ears 0").count(5), 0);
            Due.same("ears 999", Due.rightHills("ears 999").count(5), 999);
            Due.wrongHills("hour 1000", 5);
            Due.wrongHills("ears 1000", 5);
        });
        Sentence.test(4, "NOISE 0 to 100 (20 at first).", () -> {
            Due.same("at first", Due.rightHills("").count(3), 20);
            Due.same("0", Due.rightHills("noise 0").count(3), 0);
            Due.same("100", Due.rightHills("noise 100").count(3), 100);
            Due.wrongHills("noise 101", 6);
        });
        Sentence.test(4, "Numbers are of 1 to 3 digits.", () -> {
            Due.same("1", Due.rightHills("noise 7").count(3), 7);
            Due.same("2", Due.rightHills("noise 07").count(3), 7);
            Due.same("3", Due.rightHills("noise 007").count(3), 7);
            Due.same("0", Due.rightHills("noise 000").count(3), 0);
            Due.wrongHills("noise 0007", 6);
            Due.wrongHills("noise 99999999999999999999", 6);
            Due.wrongHills("noise 4294967296", 6);
            Due.wrongHills("noise", 5);
            Due.wrongHills("oath sum 0005", 9);
        });
    }

    private static void signs() {
        Sentence.test(4, "Words are as long as a to z go on", () -> {
            Due.rightHills("oath sum1to2breath3guards4;hour5");
            Due.wrongHills("oathgo", 0);
            Due.wrongHills("oath gogo", 5);
            Due.wrongHills("oath goa", 5);
            Due.wrongHills("oath goz", 5);
            Due.wrongHills("oath zgo", 5);
            Due.wrongHills("oath gobreath 3", 5);
            Due.wrongHills("oath Go", 5);
            Due.wrongHills("oath goO", 7);
            Due.wrongHills("oath go`", 7);
            Due.wrongHills("oath go{", 7);
        });
        Sentence.test(4, "between all there may be blanks (32), also ahead and behind.", () -> {
            Due.same("many", Due.rightHills("   oath   sum   3   breath   4   ;   hour   5   ").count(4), 5);
            Due.same("none", Due.rightHills("oath sum3breath4;hour5").count(4), 5);
            Due.rightLaw(" weigh 1 if ( sum + 1 < 5 ) ", 1);
            Due.rightLaw("weigh1if(sum+1<5)", 1);
            Due.wrongHills("oath go\t", 7);
            Due.wrongHills("\noath go", 0);
            Due.wrongHills("oath go\0", 7);
            Due.wrongHills("oath go!", 7);
            Due.wrongHills("oath go\u00a0", 7);
            Due.wrongHills("hour 5 0", 7);
        });
        Sentence.test(4, "A text that is empty, or blanks alone, has no LINE.", () -> {
            for (String text : new String[] {"", " ", "     ", " ".repeat(400)}) {
                HalfOaths x = Due.rightHills(text);
                String before = State.of(new HalfOaths());
                Due.same("nothing but a text", State.of(x).replace("count 1, ", "count 0, "), before);
            }
        });
        Sentence.test(5, "A text that is empty, or blanks alone, has no LINE.", () -> {
            for (String text : new String[] {"", " ", "     ", " ".repeat(400)}) {
                HalfOaths x = Due.hills("oath go", "weigh 5");
                Due.same("lines", Due.text(x, text).law(), 0);
                Due.same("fault", x.fault(), -1);
                Due.same("a law without a line", x.count(2), 0);
                Due.same("the one before is gone", x.reading(0, 1, 6), 2);
            }
        });
    }

    private static void law() {
        Sentence.test(5, "THE LAW (a text, in place of the one before): LINE { ; LINE }, at most 12:", () -> {
            HalfOaths x = Due.hills("oath go", Due.lines("weigh 1", 12));
            Due.same("twelve", x.count(2), 12);
            Due.same("twelve", x.reading(0, 1, 6), 14);
            Due.same("one in their place", Due.text(x, "hear 5").law(), 1);
            Due.same("one", x.count(2), 1);
            Due.same("nothing of them", x.reading(0, 1, 6), 2);
            Due.rightLaw(Due.lines("ease 5", 12), 12);
            Due.wrongLaw(Due.lines("ease 5", 13), 12 * 7);
            Due.wrongLaw(Due.lines("ease 5", 12) + ";", 12 * 7);
            Due.wrongLaw("ease 5;;ease 5", 7);
            Due.wrongLaw("ease 5;", 7);
            Due.wrongLaw("ease 5 ease 5", 7);
        });
        Sentence.test(5, "weigh N [ if C ] | ease N [ if C ] | hear N [ if C ].", () -> {
            Due.rightLaw("weigh 1;ease 2;hear 3;weigh 1 if whole;ease 2 if empty;hear 3 if turned", 6);
            Due.wrongLaw("weigh", 5);
            Due.wrongLaw("ease if whole", 5);
            Due.wrongLaw("hear 3 if", 9);
            Due.wrongLaw("hear 3 if;", 9);
            Due.wrongLaw("hear 3 whole", 7);
            Due.wrongLaw("hear 3 if whole if whole", 16);
            Due.wrongLaw("oath go", 0);
        });
        Sentence.test(5, "Uses the TAPE up: THE LAW: how many LINES. IllegalArgumentException: the text is wrong.", () -> {
            HalfOaths x = new HalfOaths();
            Due.same("a right one", Due.text(x, "weigh 1;weigh 2").law(), 2);
            Due.same("used up", x.end(1), false);
            Due.noNumber("a wrong one", Due.text(x, "weigh 1;weigh 41")::law);
            Due.same("used up", x.end(1), false);
            Due.same("the one before", x.count(2), 2);
            for (int i = 0; i < 13; i++) {
                Due.same("a thirteenth text, too", Due.text(x, "weigh 1").law(), 1);
            }
        });
    }

    private static void conditions() {
        Sentence.test(5, "C: ALL { or ALL }; ALL: ATOM { and ATOM }; ATOM: not ATOM | ( C ) | whole | turned | empty | SUM < SUM | SUM > SUM.", () -> {
            Due.wrongLaw("hear 1 if whole or", 18);
            Due.wrongLaw("hear 1 if or whole", 10);
            Due.wrongLaw("hear 1 if whole and or empty", 20);
            Due.wrongLaw("hear 1 if not", 13);
            Due.wrongLaw("hear 1 if ()", 11);
            Due.wrongLaw("hear 1 if (whole", 16);
            Due.wrongLaw("hear 1 if whole)", 15);
            Due.wrongLaw("hear 1 if whole empty", 16);
            Due.wrongLaw("hear 1 if sum", 13);
            Due.wrongLaw("hear 1 if sum and whole", 14);
            Due.wrongLaw("hear 1 if sum <", 15);
            Due.wrongLaw("hear 1 if < sum", 10);
            Due.wrongLaw("hear 1 if 1 < 2 < 3", 16);
            Due.wrongLaw("hear 1 if (1) < 2", 12);
            Due.wrongLaw("hear 1 if whole < 2", 16);
            HalfOaths x = Due.hills("oath go", "hear 1 if sum < 0;hear 2 if sum > 0;hear 4 if 0 < sum + 1;hear 8 if 0 + 1 > sum");
            Due.same("what is alike is neither less nor more", x.reading(0, 1, 7), 13);
            HalfOaths y = Due.hills("oath go", "hear 1 if whole or empty;hear 2 if empty or whole;hear 4 if empty or turned;hear 8 if whole and empty;"
                + "hear 16 if empty and whole;hear 32 if whole and not empty;hear 3 if whole or whole and empty;hear 5 if (whole or whole) and empty;"
                + "hear 7 if empty and whole or whole;hear 9 if not empty and empty;hear 11 if not (empty and empty)");
            Due.same("or, and, not and brackets", y.reading(0, 1, 7), 1 + 1 + 2 + 32 + 3 + 7 + 11);
        });
        Sentence.test(5, "SUM: PART { + PART }; PART: NUMBER | person | verb | sum | ifs | by | tos | count.", () -> {
            Due.rightLaw("hear 1 if person + verb + sum + ifs + by + tos + count + 1 < 999 + 999", 1);
            Due.wrongLaw("hear 1 if 1 +", 13);
            Due.wrongLaw("hear 1 if 1 + < 2", 14);
            Due.wrongLaw("hear 1 if 1 + + 2", 14);
            Due.wrongLaw("hear 1 if 1 < 2 +", 17);
            Due.wrongLaw("hear 1 if + 1 < 2", 10);
            Due.wrongLaw("hear 1 if if < 2", 10);
            Due.wrongLaw("hear 1 if to < 2", 10);
            Due.wrongLaw("hear 1 if 1 < whole", 14);
            Due.wrongLaw("hear 1 if 1 < (2)", 14);
            HalfOaths x = Due.hills("oath go");
            for (int more = 192; more <= 193; more++) {
                Due.text(x, "hear 1 if " + "1+".repeat(192) + "1>" + more);
                x.law();
                Due.same("193 parts of 399 bytes, above " + more, x.reading(0, 1, 7), more == 192 ? 2 : 1);
            }
            Due.text(x, "hear 1 if 193<" + "1+".repeat(193));
            Due.noNumber("400 bytes, and a part must come", x::law);
            Due.same("at the text's length", x.fault(), 400);
        });
        Sentence.test(5, "( and not within one another at most 6 deep.", () -> {
            Due.rightLaw("hear 1 if ((((((whole))))))", 1);
            Due.rightLaw("hear 1 if not not not not not not whole", 1);
            Due.rightLaw("hear 1 if not (not (not (whole))) or ((((((empty)))))) and not not not not not not 1 < 2", 1);
            Due.wrongLaw("hear 1 if (((((((whole)))))))", 16);
            Due.wrongLaw("hear 1 if not not not not not not not whole", 34);
            Due.wrongLaw("hear 1 if (not (not (not (whole))))", 25);
            Due.wrongLaw("hear 1 if not (not (not (not whole)))", 25);
            Due.wrongLaw("hear 1 if ((((((whole or not empty))))))", 25);
            HalfOaths x = Due.hills("oath go", "hear 1 if not not not not not not whole;hear 2 if not(not(not(whole)))");
            Due.same("six times not, three times not", x.reading(0, 1, 7), 2);
            String deep = "empty or whole and (".repeat(6) + "empty or whole and 1+1<1+1+count" + ")".repeat(6);
            HalfOaths y = Due.hills("oath go go", "hear 1 if " + deep + ";hear 2 if " + deep.replace("1+1+count", "count+0"));
            Due.same("six deep, each with or and and, of one word", y.reading(0, 1, 7), 1);
            Due.same("of two words", y.reading(0, 2, 7), 2);
        });
    }

    private static void numbersOfLaw() {
        Sentence.test(5, "All numbers are of 1 to 3 digits (N 0 to 40).", () -> {
            Due.same("0", Due.hills("oath go", "weigh 0").reading(0, 1, 6), 2);
            Due.same("40", Due.hills("oath go", "weigh 40").reading(0, 1, 6), 42);
            Due.same("three digits", Due.hills("oath go", "weigh 007").reading(0, 1, 6), 9);
            Due.same("ease 40", Due.hills("oath go", "weigh 40;weigh 40;ease 40").reading(0, 1, 6), 42);
            Due.same("hear 40", Due.hills("oath go", "hear 40").reading(0, 1, 7), 41);
            Due.wrongLaw("weigh 41", 6);
            Due.wrongLaw("ease 41", 5);
            Due.wrongLaw("hear 999", 5);
            Due.wrongLaw("weigh 0040", 6);
            Due.wrongLaw("weigh 4294967296", 6);
            Due.rightLaw("hear 1 if 0 < 999 + 000 + 01", 1);
            Due.wrongLaw("hear 1 if 0 < 1000", 14);
            Due.wrongLaw("hear 1 if 0001 < 2", 10);
            HalfOaths x = Due.hills("oath go", "hear 1 if 998 < 999;hear 2 if 999 + 1 > 999 and 999 + 999 < 999 + 999 + 1");
            Due.same("999", x.reading(0, 1, 7), 4);
        });
    }

    private static void firstWrongByte() {
        Sentence.test(6, "The first wrong byte: the begin of the first thing that cannot stand there", () -> {
            Due.wrongHills("oath go gone", 8);
            Due.wrongHills("  ;hour 5", 2);
            Due.wrongHills("hour 5 ; hour 5 5", 16);
            Due.wrongHills("oath go go xyz;mode 9 9", 11);
            Due.wrongLaw("weigh 1 if whole < 3", 17);
            Due.wrongLaw("  goat", 2);
        });
        Sentence.test(6, "a number of more digits, or out of its bounds, or that tells none that can be", () -> {
            Due.wrongHills("noise   0100 ", 8);
            Due.wrongHills("noise 101", 6);
            Due.wrongHills("mode 12 0", 5);
            Due.wrongHills("mode 0   12", 9);
            Due.wrongLaw("weigh  41", 7);
            Due.wrongLaw("weigh 1 if sum <  1234", 18);
        });
        Sentence.test(6, "a word that is none", () -> {
            Due.wrongHills("oaths go", 0);
            Due.wrongHills("oath  goo", 6);
            Due.wrongHills("oath go brea 3", 8);
            Due.wrongLaw("weigh 1 if wholes", 11);
            Due.wrongLaw("weigh 1 iff whole", 8);
        });
        Sentence.test(6, "the ( or not that is a 7th one deep", () -> {
            Due.wrongLaw("ease 1 if ( ( ( ( ( ( ( whole", 22);
            Due.wrongLaw("ease 1 if ( ( ( ( ( ( not whole", 22);
            Due.wrongLaw("ease 1 if whole and not not not not not not ( 1 < 2 )", 44);
        });
    }

    private static void furtherWrongBytes() {
        Sentence.test(6, "of a LINE, a person too many, the first word)", () -> {
            Due.wrongHills(Due.lines("ears 1", 14) + " ;  noise 3", 14 * 7 + 3);
            Due.wrongHills(Due.lines("ears 1", 14) + "; noise 333", 14 * 7 + 1);
            Due.wrongHills(Due.lines("oath go", 6) + ";  oath gone", 6 * 8 + 2);
            Due.wrongLaw(Due.lines("hear 1", 12) + ";  weigh 99", 12 * 7 + 2);
        });
        Sentence.test(6, "or the text's length, if more must come.", () -> {
            Due.wrongHills("oath ", 5);
            Due.wrongHills("oath sum", 8);
            Due.wrongHills("mode", 4);
            Due.wrongHills("mode 1  ", 8);
            Due.wrongHills("hour", 4);
            Due.wrongHills("hour 1; ", 8);
            Due.wrongLaw("weigh  ", 7);
            Due.wrongLaw("weigh 1 if (1 < 2 ", 18);
            Due.wrongLaw("weigh 1 if not ", 15);
            Due.wrongLaw("weigh 1;", 8);
            Due.wrongHills("noise 1;" + " ".repeat(388) + "oath", 400);
        });
    }

    private static void fault() {
        Sentence.test(6, "The first wrong byte of the latest text that was read; NONE without one, and ahead of any.", () -> {
            HalfOaths x = new HalfOaths();
            Due.same("ahead of any", x.fault(), -1);
            Due.noNumber("hills", Due.text(x, "hour 5;x")::hills);
            Due.same("of the hills", x.fault(), 7);
            Due.same("asked again", x.fault(), 7);
            Due.noNumber("law", Due.text(x, "hear x")::law);
            Due.same("of the law", x.fault(), 5);
            Due.text(x, "ease 1").law();
            Due.same("of a right law", x.fault(), -1);
            Due.noNumber("hills", Due.text(x, "x")::hills);
            Due.same("the first byte", x.fault(), 0);
            Due.text(x, "").hills();
            Due.same("of right hills", x.fault(), -1);
            Due.noNumber("law", Due.text(x, "hear 5 x")::law);
            Due.noNumber("rows", Due.tape(x, 99, 99)::whose);
            Due.noNumber("coughs", () -> Due.tape(x, 99, 99).first(5));
            Due.same("rows and coughs are no texts", x.fault(), 7);
        });
        Sentence.test(6, "fault(), where a text is read (also by one that is refused).", () -> {
            HalfOaths x = new HalfOaths();
            for (int i = 0; i < 12; i++) {
                x.hills();
            }
            Due.noNumber("wrong", Due.text(x, "hour x")::hills);
            Due.same("wrong", x.fault(), 5);
            Due.fails("right, but a thirteenth", UnsupportedOperationException.class, Due.text(x, "hour 5")::hills);
            Due.same("right, but a thirteenth", x.fault(), -1);
        });
    }
}
