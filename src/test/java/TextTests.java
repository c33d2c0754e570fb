/** Promises 1 to 8, and 38 of THE TAPE: the text. */
final class TextTests {
    private static final int BAD = ShakeHands.BAD;
    private static final int FULL = ShakeHands.FULL;
    private static final int NONE = ShakeHands.NONE;

    private TextTests() {
    }

    static void run() {
        newObject();
        feed();
        end();
        taken();
        emptyText();
        blanks();
        fullTape();
        ruleHandJoin();
        faultsOfTokens();
        faultsOfPlaces();
        faultsOfBounds();
        faultsOfTwice();
        faultsOfTooMany();
        faultsBehindAll();
        faultOrder();
        refusedTextChangesNothing();
        whatATextLeaves();
    }

    private static void newObject() {
        Hands x = new Hands();
        Due.is("rule(0)", 3, x.rule(0));
        Due.is("rule(1)", 9, x.rule(1));
        for (int what = 2; what <= 5; what++) {
            Due.is("rule(" + what + ")", 0, x.rule(what));
        }
        for (int p = 0; p < 3; p++) {
            Due.row(x, p);
        }
        Due.is("knows(3)", BAD, x.knows(3));
        Due.is("fault()", 0, x.fault());
        Due.is("torn()", 0, x.torn());
        for (int what = 0; what <= 4; what++) {
            Due.is("count(" + what + ")", 0, x.count(what));
        }
        Due.is("count(5)", NONE, x.count(5));
        for (int k = 0; k < 4; k++) {
            Due.is("lay of nothing", -11, x.lay(k, 0, 1));
        }
        Due.is("back(0)", ShakeHands.STATE, x.back(0));
        Due.is("BAD", -1, ShakeHands.BAD);
        Due.is("STATE", -2, ShakeHands.STATE);
        Due.is("FULL", -3, ShakeHands.FULL);
        Due.is("NONE", -4, ShakeHands.NONE);
    }

    private static void feed() {
        Hands x = new Hands();
        // "hold 4;@": the highest byte first
        Due.is("feed", 8, x.feed(0x686F6C6420343B40L));
        Due.is("feed", 16, x.feed(-1L));
        Due.is("count(4)", 16, x.count(4));
        Due.is("end(7)", 16, x.end(7));
        Due.is("text()", 1, x.text());
        Due.is("rule(1)", 4, x.rule(1));
        for (int i = 1; i <= 40; i++) {
            Due.is("feed", 8 * i, x.feed(0x2020202020202020L));
        }
        Due.is("feed of a full one", FULL, x.feed(0x2020202020202020L));
        Due.is("count(4)", 320, x.count(4));
        Due.is("end(313)", 320, x.end(313));
        Due.is("feed of 313", FULL, x.feed(0x2020202020202020L));
        Due.is("end(312)", 313, x.end(312));
        Due.is("feed of 312", 320, x.feed(0x2020202020202020L));
        Due.is("text()", 0, x.text());
        Due.is("count(4)", 0, x.count(4));
    }

    private static void end() {
        Hands x = new Hands();
        Due.is("end(0)", 0, x.end(0));
        Due.is("end(1)", BAD, x.end(1));
        x.feed(0L);
        Due.is("end(9)", BAD, x.end(9));
        Due.is("end(-1)", BAD, x.end(-1));
        Due.is("end(max)", BAD, x.end(Integer.MAX_VALUE));
        Due.is("count(4)", 8, x.count(4));
        Due.is("end(8)", 8, x.end(8));
        Due.is("end(3)", 8, x.end(3));
        Due.is("end(5)", BAD, x.end(5));
        Due.is("feed", 11, x.feed(0L));
        Due.is("end(0)", 11, x.end(0));
    }

    private static void taken() {
        Hands x = Due.told("people 6;hold 4;knows 5 15 0 9;join 1 2 3;hand 5 4;daily 1 0;glove 2;glove 5;");
        Due.is("fault()", 0, x.fault());
        Due.is("rule(0)", 6, x.rule(0));
        Due.is("rule(1)", 4, x.rule(1));
        Due.is("rule(2)", 1, x.rule(2));
        Due.is("rule(3)", 1, x.rule(3));
        Due.is("rule(4)", 1, x.rule(4));
        Due.is("rule(5)", 2, x.rule(5));
        Due.row(x, 5, 15, 0, 9);
        Due.row(x, 0);
        Due.is("glove(2, true)", 1, x.glove(2, true));
        Due.is("glove(1, true)", 0, x.glove(1, true));
        // JOINS are not made yet
        Due.row(Due.told("knows 0 1 2;join 1 2 3;"), 0, 1, 2);
        Due.row(Due.told("knows 1 0 1 2 3 4 5 6 7 8;"), 1, 0, 1, 2, 3, 4, 5, 6, 7, 8);
        // the order of lines is free, and bounds take their ends
        Due.told("hand 4 5;knows 5 1;people 6;");
        Due.told("knows 0 1 2;hold 2;");
        Due.told("people 2;hold 1;");
        Due.told("people 6;hold 9;");
        // a hand of any two, as often as wanted; gloves and rows of one ONE
        Due.told("hand 0 1;hand 1 0;daily 0 1;daily 0 1;knows 0 1;glove 0;");
        Due.told("join 1 2 3;join 1 2 3;join 3 2 1;join 4 5 6;");
    }

    private static void emptyText() {
        Hands x = Due.told("people 5;hold 2;knows 4 1;join 1 2 3;hand 0 1;daily 0 1;glove 3;");
        Due.is("text()", 0, x.text());
        newObjectRules(x);
        x = Due.told("people 5;");
        Due.lay(x, "     ");
        Due.is("text() of blanks", 0, x.text());
        newObjectRules(x);
    }

    private static void newObjectRules(Hands x) {
        Due.is("rule(0)", 3, x.rule(0));
        Due.is("rule(1)", 9, x.rule(1));
        for (int what = 2; what <= 5; what++) {
            Due.is("rule(" + what + ")", 0, x.rule(what));
        }
        Due.row(x, 0);
        Due.is("knows(4)", BAD, x.knows(4));
    }

    private static void blanks() {
        Due.told("  people  5  ;  hold 3 ; ");
        Due.told("people5;hold3;");
        Due.told("knows0 1;hand0 1;");
        Hands x = Due.told("people 05;hold 09;knows 00 01;");
        Due.is("rule(0)", 5, x.rule(0));
        Due.row(x, 0, 1);
        Due.refuses("knows 01;", 2, 8);
        Due.refuses("peoplehold 3;", 2, 0);
    }

    /** Texts that fill THE TAPE to its last byte. */
    private static void fullTape() {
        String most = "hand 0 1;".repeat(16) + "daily 0 1;".repeat(8) + "join 1 2 3;".repeat(4) + "knows 0 1;";
        Due.told(most + " ".repeat(309 - most.length()) + "knows 1 02;");
        Due.refuses(most + " ".repeat(310 - most.length()) + "knows 1 02", 2, 320);
        Due.refuses(most + " ".repeat(310 - most.length()) + "knows 1  2", 2, 320);
        Due.refuses(most + " ".repeat(315 - most.length()) + "knows", 2, 320);
        Due.refuses(most + " ".repeat(317 - most.length()) + "123", 1, 317);
        Due.refuses("a".repeat(320), 2, 0);
        Due.refuses("1".repeat(320), 1, 0);
        Due.refuses(";".repeat(320), 2, 0);
        Due.told(" ".repeat(320));
    }

    private static void ruleHandJoin() {
        Hands x = Due.told("people 6;hand 0 1;hand 5 4;hand 3 5;daily 2 0;join 7 5 9;join 0 15 1;");
        Due.is("rule(-1)", BAD, x.rule(-1));
        Due.is("rule(6)", BAD, x.rule(6));
        Due.is("hand(0)", 0, x.hand(0, false));
        Due.is("hand(1)", 14, x.hand(1, false));
        Due.is("hand(2)", 13, x.hand(2, false));
        Due.is("hand(3)", BAD, x.hand(3, false));
        Due.is("hand(-1)", BAD, x.hand(-1, false));
        Due.is("daily(0)", 1, x.hand(0, true));
        Due.is("daily(1)", BAD, x.hand(1, true));
        Due.is("daily(-1)", BAD, x.hand(-1, true));
        Due.is("join(0, 0)", 7, x.join(0, 0));
        Due.is("join(0, 1)", 5, x.join(0, 1));
        Due.is("join(0, 2)", 9, x.join(0, 2));
        Due.is("join(1, 1)", 15, x.join(1, 1));
        Due.is("join(2, 0)", BAD, x.join(2, 0));
        Due.is("join(-1, 0)", BAD, x.join(-1, 0));
        Due.is("join(0, 3)", BAD, x.join(0, 3));
        Due.is("join(0, -1)", BAD, x.join(0, -1));
        int pair = 0;
        for (int b = 1; b < 6; b++) {
            for (int a = 0; a < b; a++) {
                Due.is("hand", pair, Due.told("people 6;hand " + a + " " + b + ";").hand(0, false));
                Due.is("hand", pair, Due.told("people 6;daily " + b + " " + a + ";").hand(0, true));
                pair++;
            }
        }
    }

    private static void faultsOfTokens() {
        Due.refuses("#", 1, 0);
        Due.refuses("  People 3;", 1, 2);
        Due.refuses("people 3.", 1, 8);
        Due.refuses("people -3;", 1, 7);
        Due.refuses("people 003;", 1, 7);
        Due.refuses("people 123456;", 1, 7);
        Due.refuses("123", 1, 0);
        Due.refuses("people 3;\n", 1, 9);
        Due.refuses("people 3;\u0000", 1, 9);
        Due.refuses("people 3;\u00e9", 1, 9);
        Due.refuses("peo\u00ffple 3;", 2, 0);
        Due.refuses("knows 0 1 222;", 1, 10);
        Due.refuses("{", 1, 0);
        Due.refuses("`", 1, 0);
        Due.refuses(":", 1, 0);
        Due.refuses("/", 1, 0);
    }

    private static void faultsOfPlaces() {
        Due.refuses(";", 2, 0);
        Due.refuses("3;", 2, 0);
        Due.refuses("hands 0 1;", 2, 0);
        Due.refuses("han 0 1;", 2, 0);
        String[] lines = {"people 3;", "hold 3;", "knows 0 1;", "join 1 2 3;", "hand 0 1;", "daily 0 1;", "glove 0;"};
        for (String line : lines) {
            Due.refuses("x" + line.substring(1), 2, 0);
            Due.refuses(line.replace(" ", "").replaceAll("[0-9]", "") + "x", 2, line.indexOf(' '));
            Due.refuses(line.substring(0, line.indexOf(' ')) + "s" + line.substring(line.indexOf(' ')), 2, 0);
            Due.refuses(line + line.substring(0, line.indexOf(' ') - 1) + "z;", 2, line.length());
        }
        Due.refuses("people", 2, 6);
        Due.refuses("people  ", 2, 8);
        Due.refuses("people ;", 2, 7);
        Due.refuses("people hold;", 2, 7);
        Due.refuses("people 3", 2, 8);
        Due.refuses("people 3 hold 2;", 2, 9);
        Due.refuses("people 3 3;", 2, 9);
        Due.refuses("people 3;;", 2, 9);
        Due.refuses("people 3; x;", 2, 10);
        Due.refuses("knows;", 2, 5);
        Due.refuses("knows 0;", 2, 7);
        Due.refuses("knows 0 1 hold 3;", 2, 10);
        Due.refuses("knows 0 1", 2, 9);
        Due.refuses("knows 0 1 2 3 4 5 6 7 8 9", 2, 25);
        Due.refuses("join 1 2;", 2, 8);
        Due.refuses("join 1 2 3 4;", 2, 11);
        Due.refuses("hand 1;", 2, 6);
        Due.refuses("hand 0 1 2;", 2, 9);
        Due.refuses("daily 0 ;", 2, 8);
        Due.refuses("glove;", 2, 5);
        Due.refuses("glove 0 1;", 2, 8);
    }

    private static void faultsOfBounds() {
        Due.refuses("people 1;", 3, 7);
        Due.refuses("people 7;", 3, 7);
        Due.refuses("people 99", 3, 7);
        Due.refuses("hold 0;", 3, 5);
        Due.refuses("hold 10;", 3, 5);
        Due.refuses("knows 6 1;", 3, 6);
        Due.refuses("knows 0 16;", 3, 8);
        Due.refuses("knows 0 1 16;", 3, 10);
        Due.refuses("join 16 1 2;", 3, 5);
        Due.refuses("join 1 16 2;", 3, 7);
        Due.refuses("join 1 2 16;", 3, 9);
        Due.refuses("hand 6 1;", 3, 5);
        Due.refuses("hand 1 6;", 3, 7);
        Due.refuses("daily 6 1;", 3, 6);
        Due.refuses("daily 1 6;", 3, 8);
        Due.refuses("glove 6;", 3, 6);
    }

    private static void faultsOfTwice() {
        Due.refuses("people 3;people 3;", 4, 9);
        Due.refuses("people 3;people", 4, 9);
        Due.refuses("hold 3;hold #", 4, 7);
        Due.refuses("knows 0 1;knows 0 2;", 4, 16);
        Due.refuses("glove 0;glove 1;glove 0", 4, 22);
        Due.refuses("knows 0 1 2 1;", 4, 12);
        Due.refuses("join 1 1 2;", 4, 7);
        Due.refuses("join 1 2 1;", 4, 9);
        Due.refuses("join 1 2 2;", 4, 9);
        Due.refuses("hand 2 2;", 4, 7);
        Due.refuses("daily 0 0;", 4, 8);
    }

    private static void faultsOfTooMany() {
        Due.refuses("join 1 2 3;".repeat(4) + "join", 5, 44);
        Due.refuses("hand 0 1;".repeat(16) + "hand 9", 5, 144);
        Due.refuses("daily 0 1;".repeat(8) + "daily #", 5, 80);
        Due.refuses("knows 0 1 2 3 4 5 6 7 8 9 10;", 5, 26);
        Due.refuses("hold 9;knows 0 1 2 3 4 5 6 7 8 9 10", 5, 33);
        Due.told("join 1 2 3;".repeat(4));
        Due.told("hand 0 1;".repeat(16) + "daily 0 1;".repeat(8));
    }

    private static void faultsBehindAll() {
        Due.refuses("knows 3 1;", 6, 10);
        Due.refuses("glove 3;", 6, 8);
        Due.refuses("hand 0 3;", 6, 9);
        Due.refuses("hand 3 0;", 6, 9);
        Due.refuses("daily 0 5;  ", 6, 12);
        Due.refuses("people 2;hand 0 2;", 6, 18);
        Due.refuses("hand 0 2;people 2;", 6, 18);
        Due.refuses("people 5;glove 5;", 6, 17);
        Due.refuses("hold 2;knows 1 1 2 3;", 7, 21);
        Due.refuses("knows 1 1 2 3;hold 2; ", 7, 22);
        Due.refuses("knows 1 1 2 3;knows 0 1;hold 2;", 7, 31);
        Due.refuses("hold 1;knows 3 1 2;", 6, 19);
        Due.told("people 4;knows 3 1;glove 3;hand 3 0;daily 0 3;");
    }

    /** The first met as it is read; of one TOKEN the first by number. */
    private static void faultOrder() {
        Due.refuses("people 9 #", 3, 7);
        Due.refuses("hand 1 1 #", 4, 7);
        Due.refuses("people #3;", 1, 7);
        Due.refuses("people 3#", 1, 8);
        Due.refuses("knows 0 1 2 3 4 5 6 7 8 9 16;", 3, 26);
        Due.refuses("knows 0 1 2 3 4 5 6 7 8 9 9;", 4, 26);
        Due.refuses("knows 3 1;x", 2, 10);
        Due.refuses("hold 1;knows 0 1 2;people 3", 2, 27);
        Due.refuses("knows 0 1;knows 0", 4, 16);
    }

    private static void refusedTextChangesNothing() {
        Hands x = Due.told("people 4;hold 3;knows 0 7 5;join 1 2 3;hand 0 1;daily 1 3;glove 2;");
        x.saw(0, 5);
        x.keep(1);
        Due.refuses(x, "people 2;hold 1;knows 0 1;join 3 4 5;hand 1 0;daily 0 1;glove 0;glove 0;", 4, 70);
        Due.refuses(x, "people 2;hold 1;knows 0 1;join 3 4 5;hand 1 0;daily 0 1;glove 2;", 6, 64);
        Due.is("rule(0)", 4, x.rule(0));
        Due.is("rule(1)", 3, x.rule(1));
        Due.is("rule(2)", 1, x.rule(2));
        Due.is("rule(3)", 1, x.rule(3));
        Due.is("rule(4)", 1, x.rule(4));
        Due.is("rule(5)", 1, x.rule(5));
        Due.is("join(0, 2)", 3, x.join(0, 2));
        Due.is("hand(0, true)", 4, x.hand(0, true));
        Due.row(x, 0, 7, 5);
        Due.is("count(2)", 1, x.count(2));
        Due.is("count(3)", 1, x.count(3));
        Due.tell(x, "hold 3;");
        Due.is("fault()", 0, x.fault());
    }

    private static void whatATextLeaves() {
        Hands x = Due.told("people 4;hold 3;knows 0 7 5;glove 2;");
        x.sheet(0, 1, 7);
        x.lay(0, 1, 1);
        x.read(1, 0, 0, 1);
        x.saw(0, 5);
        x.keep(0);
        Due.tell(x, "knows 1 4;");
        Due.is("rule(0)", 3, x.rule(0));
        Due.is("rule(1)", 9, x.rule(1));
        Due.is("rule(5)", 0, x.rule(5));
        Due.row(x, 0);
        Due.row(x, 1, 4);
        Due.is("count(2)", 0, x.count(2));
        Due.is("count(3)", 0, x.count(3));
        Due.is("back(0)", ShakeHands.STATE, x.back(0));
        Due.is("keep(0)", 0, x.keep(0));
        Due.is("count(5)", 7, x.count(5));
        Due.is("torn()", 1, x.torn());
        Due.is("read of the old SHEET", 1, x.read(0, 1, 0, 1));
        // nothing of a text goes into the next one
        x = Due.told("people 6;knows 0 1 2 3;knows 5 3;glove 5;join 1 2 3;hand 5 4;daily 5 3;");
        Due.tell(x, "hold 2;knows 0 1;");
        Due.is("learn(1, 4)", 1, x.learn(1, 4));
        Due.row(x, 1, 4);
        Due.is("learn(0, 2)", 2, x.learn(0, 2));
        Due.row(x, 0, 1, 2);
        Due.tell(x, "people 6;knows 5 3;glove 5;");
        Due.row(x, 0);
    }
}
