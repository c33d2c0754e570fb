/** Sentences that name a boundary: the answers, PEOPLE, THE TAPE and its FAULTS, promises 1 to 8. */
final class EdgeTextTests {
    private static final int BAD = ShakeHands.BAD;
    private static final int FULL = ShakeHands.FULL;
    private static final int NONE = ShakeHands.NONE;
    private static final int STATE = ShakeHands.STATE;
    private static final int MIN = Integer.MIN_VALUE;
    private static final int MAX = Integer.MAX_VALUE;

    private EdgeTextTests() {
    }

    static void run() {
        says("An object is used for at most 512 calls after it has been made; what later calls answer is free.",
                EdgeTextTests::manyCalls);
        says("Answers: BAD -1 (a number is not as told, there is no such ONE, THING, HAND, IMAGE, SHEET), STATE -2 "
                + "(as told), FULL -3, NONE -4 (there is none), the first that fits;", EdgeTextTests::firstThatFits);
        says("what is refused changes nothing (but THE TAPE, as told).", EdgeTextTests::refusedTexts);
        says("PEOPLE (2 to 6; 3 at first), each a ONE, by numbers.", EdgeTextTests::people);
        says("THINGS 0 to 15.", EdgeTextTests::things);
        says("Each ONE has a ROW of THINGS he knows, unlike, the eldest first; no more than HOLD (1 to 9; 9).",
                EdgeTextTests::hold);
        says("JOINS (4): two unlike THINGS that become a third one.", EdgeTextTests::joins);
        says("HANDS (16) of THE FEAST, DAILY HANDS (8): two unlike PEOPLE each.", EdgeTextTests::hands);
        says("A ONE wears GLOVES or none.", EdgeTextTests::gloves);
        says("THE TAPE has 320 bytes, places from 0.", EdgeTextTests::places);
        says("TOKENS, each as long as may be", EdgeTextTests::asLongAsMayBe);
        says("blanks (32) ahead, between, behind, as many as wanted", EdgeTextTests::blanks);
        says("(at least one between two NAMES, between two NUMBERS; else none is needed)", EdgeTextTests::noBlank);
        says("NAMES (a .. z)", EdgeTextTests::names);
        says("NUMBERS (1 or 2 figures)", EdgeTextTests::numbers);
        says("the sign ; (a point is none).", EdgeTextTests::sign);
        says("text: { line }", EdgeTextTests::lines);
        says("line: people N ; | hold N ; | knows N N { N } ; | join N N N ; | hand N N ; | daily N N ; | glove N ;",
                EdgeTextTests::eachLine);
        says("people: 2 to 6.", () -> bounds("people ", ";", 2, 6, 7));
        says("hold: 1 to 9.", () -> bounds("hold ", ";", 1, 9, 5));
        says("knows: a ONE (0 to 5), his THINGS, the eldest first (9 at most).", EdgeTextTests::knowsLine);
        says("join: x, y, what they become (0 to 15 each, all unlike).", EdgeTextTests::joinLine);
        says("hand, daily: two PEOPLE (0 to 5).", EdgeTextTests::handLines);
        says("glove: a ONE.", () -> bounds("people 6;glove ", ";", 0, 5, 15));
        faults();
        says("A text that is taken tells all, in place of what there was (what it does not tell is as at first); "
                + "nothing SEEN; IMAGES are gone; SHEETS stay.", EdgeTextTests::takenText);
        says("JOINS are not made yet.", EdgeTextTests::notYetMade);
        calls();
    }

    private static void faults() {
        says("FAULTS, the first met as it is read (a TOKEN is read when the one before has been taken)",
                EdgeTextTests::firstMet);
        says("1 no TOKEN, a NUMBER that is too long (its first byte).", EdgeTextTests::noToken);
        says("2 a TOKEN that can not stand there (a NAME that begins no line; or the end: the length).",
                EdgeTextTests::misplaced);
        says("3 a NUMBER out of its bounds.", EdgeTextTests::outOfBounds);
        says("4 people, hold for the second time (its NAME),", EdgeTextTests::secondName);
        says("knows, glove of a ONE for the second time (it),", EdgeTextTests::secondOne);
        says("a THING he knows already, a THING, a ONE that is alike (it).", EdgeTextTests::alike);
        says("5 the 5th join, the 17th hand, the 9th daily (its NAME), the 10th THING (it).", EdgeTextTests::tooMany);
        says("Behind all (the length): 6 a ONE that there is not;", EdgeTextTests::noSuchOne);
        says("7 more THINGS than HOLD.", EdgeTextTests::overHold);
    }

    private static void calls() {
        says(1, "As told at first; nobody knows anything; SHEETS of nothing.", EdgeTextTests::newObject);
        says(2, "Eight bytes come behind THE TAPE, the highest first: how many it has.", EdgeTextTests::feed);
        says(2, "FULL: more than 320.", EdgeTextTests::feedFull);
        says(3, "THE TAPE keeps its first n bytes: how many it had.", EdgeTextTests::end);
        says(3, "BAD (n above that, too).", EdgeTextTests::endBad);
        says(4, "THE TAPE (empty then, by a FAULT, too) tells all: how many lines;", EdgeTextTests::text);
        says(4, "-10 less the place of its FAULT: that which was told stays.", EdgeTextTests::textRefused);
        says(5, "The FAULT of the latest text(); 0.", EdgeTextTests::fault);
        says(6, "How many: 0 PEOPLE, 1 HOLD, 2 JOINS, 3 HANDS, 4 DAILY HANDS, 5 with GLOVES. BAD.", EdgeTextTests::rule);
        says(7, "Of HAND i of THE FEAST (daily: of DAILY ones): its PAIR. BAD.", EdgeTextTests::hand);
        says(8, "Of JOIN j: 0, 1 the THINGS (as told), 2 what they become. BAD.", EdgeTextTests::join);
    }

    private static void says(String words, Runnable test) {
        Sentence.says(Sentence.TERMS, words, test);
    }

    private static void says(int promise, String words, Runnable test) {
        Sentence.says(promise, words, test);
    }

    /** That a NUMBER may be from low to high where `ahead` ends; one below and above is FAULT 3 there. */
    private static void bounds(String ahead, String behind, int low, int high, int place) {
        Due.told(ahead + low + behind);
        Due.told(ahead + high + behind);
        Due.told(ahead + "0" + high % 10 + behind);
        if (low > 0) {
            Twins.leavesByText(Twins.RICH, ahead + (low - 1) + behind, 3, place);
        }
        Twins.leavesByText(Twins.RICH, ahead + (high + 1) + behind, 3, place);
        Due.refuses(ahead + 99 + behind, 3, place);
        Due.refuses(ahead + 100 + behind, 1, place);
    }

    // ---- terms

    private static void manyCalls() {
        Hands x = new Hands();
        for (int i = 1; i <= 509; i++) {
            Due.is("count(3)", 0, x.count(3));
        }
        Due.is("the 510th call", 1, x.learn(0, 5));
        Due.is("the 511th call", 1, x.shake(0, 2));
        Due.is("the 512th call", 5, x.who(5));
        Due.is("no call is left", 0, x.left());
    }

    private static void firstThatFits() {
        Due.is("BAD", -1, BAD);
        Due.is("STATE", -2, STATE);
        Due.is("FULL", -3, FULL);
        Due.is("NONE", -4, NONE);
        // in RICH ONE 0 knows 7 and 5, ONE 1 just 1; 3 wears GLOVES; nobody knows 0
        Twins.leaves(Twins.RICH, "no ONE, no THING", BAD, x -> x.learn(4, 16));
        Twins.leaves(Twins.RICH, "no ONE ahead of what he knows", BAD, x -> x.learn(4, 7));
        Twins.leaves(Twins.RICH, "no THING ahead of what he does not know", BAD, x -> x.forget(0, 16));
        Twins.leaves(Twins.RICH, "alike ahead of GLOVES", BAD, x -> x.shake(3, 3));
        Twins.leaves(Twins.RICH, "no ONE ahead of GLOVES", BAD, x -> x.shake(3, 4));
        Twins.leaves(Twins.RICH, "no ONE ahead of a short ROW", BAD, x -> x.row(4, 9));
        Twins.leaves(Twins.RICH, "told: no ONE ahead of what is known", BAD, x -> x.told(4, 7));
        Twins.leaves(Twins.RICH, "told: STATE ahead of NONE", STATE, x -> x.told(3, 8));
        Twins.leaves(Twins.RICH, "fewest: BAD ahead of NONE", BAD, x -> x.fewest(0, 1, 0, 14));
        Twins.leaves(Twins.RICH, "fewest: BAD ahead of NONE", BAD, x -> x.fewest(0, 16, 0, 0));
        Twins.leaves(Twins.RICH, "rounds: BAD ahead of NONE", BAD, x -> x.rounds(0, 1, 16));
        Twins.leaves(Twins.RICH, "fits: BAD ahead of NONE", BAD, x -> x.fits(5, 1));
        Twins.leaves(Twins.RICH, "seats: BAD ahead of STATE", BAD, x -> x.seats(7, 0, 14));
        Twins.leaves(Twins.RICH, "seats: STATE ahead of NONE", STATE, x -> x.seats(7, 0, 10));
        Twins.leaves(Twins.RICH, "gloves: BAD ahead of STATE", BAD, x -> x.gloves(7, 0, 2));
        Twins.leaves(Twins.NEW, "back: BAD ahead of STATE", BAD, x -> x.back(2));
        Twins.leaves(Twins.RICH, "sheet: BAD ahead of SIZE", BAD, x -> x.sheet(4, 0, -1));
        Twins.leaves(Twins.RICH, "sheet: BAD ahead of SIZE", BAD, x -> x.sheet(0, 3, -1));
        Twins.leaves(Twins.RICH, "lay: BAD ahead of INDEX", BAD, x -> x.lay(4, 99, 1));
        Twins.leaves(Twins.RICH, "read: BAD ahead of NULL", BAD, x -> x.read(3, 3, 0, 1));
        Twins.leaves(Twins.RICH, "read: BAD ahead of CAST", BAD, x -> x.read(0, 1, 0, 21));
    }

    private static void refusedTexts() {
        String[] texts = {"people 2;#", "people 2;hold 1;knows 0 3;join 7 8 9;hand 1 0;daily 1 0;glove 1;glove", "people 7;",
            "people 2;knows 0 1;knows 0 2;", "hold 2;knows 0 0 1 2 3 4 5 6 7 8 9;", "people 2;hand 0 1;glove 2;",
            "people 6;hold 1;knows 5 1 2;"};
        int[] places = {9, 69, 7, 25, 33, 26, 28};
        for (int fault = 1; fault <= 7; fault++) {
            Twins.leavesByText(Twins.RICH, texts[fault - 1], fault, places[fault - 1]);
            Twins.leavesByText(Twins.NEW, texts[fault - 1], fault, places[fault - 1]);
        }
        // each call's other refusals are held against a twin by the sentences of its promise
    }

    private static void people() {
        Hands first = new Hands();
        Due.is("rule(0) at first", 3, first.rule(0));
        Due.is("knows(2) at first", 0, first.knows(2));
        Due.is("knows(3) at first", BAD, first.knows(3));
        for (int n = 2; n <= 6; n++) {
            Hands x = Due.told("people " + n + ";");
            Due.is("rule(0)", n, x.rule(0));
            Due.is("knows(-1) of " + n, BAD, x.knows(-1));
            Due.is("learn(0, 4) of " + n, 1, x.learn(0, 4));
            Due.is("learn of the last of " + n, 1, x.learn(n - 1, 4));
            Due.is("who(4) of " + n, 1 | 1 << n - 1, x.who(4));
            Due.is("learn behind the last of " + n, BAD, x.learn(n, 4));
            Due.is("who(4) of " + n, 1 | 1 << n - 1, x.who(4));
        }
        Due.refuses("people 1;", 3, 7);
        Due.refuses("people 7;", 3, 7);
    }

    private static void things() {
        Hands x = new Hands();
        Due.is("learn(0, 0)", 1, x.learn(0, 0));
        Due.is("learn(0, 15)", 2, x.learn(0, 15));
        Due.is("learn(0, -1)", BAD, x.learn(0, -1));
        Due.is("learn(0, 16)", BAD, x.learn(0, 16));
        Due.row(x, 0, 0, 15);
        Due.is("who(0)", 1, x.who(0));
        Due.is("who(15)", 1, x.who(15));
        Due.is("who(14)", 0, x.who(14));
        Due.is("who(-1)", BAD, x.who(-1));
        Due.is("who(16)", BAD, x.who(16));
        Due.is("forget(0, 15)", 1, x.forget(0, 15));
        Due.is("forget(0, 0)", 0, x.forget(0, 0));
        Due.row(Due.told("knows 0 15 0;"), 0, 15, 0);
    }

    private static void hold() {
        Due.is("HOLD at first", 9, new Hands().rule(1));
        for (int hold = 1; hold <= 9; hold++) {
            Hands x = hold == 9 ? new Hands() : Due.told("hold " + hold + ";");
            Due.is("rule(1)", hold, x.rule(1));
            for (int thing = 0; thing < hold; thing++) {
                Due.is("learn up to HOLD", thing + 1, x.learn(1, thing));
            }
            Due.is("row(1, 0) at HOLD", 0, x.row(1, 0));
            Due.is("learn above HOLD", hold, x.learn(1, hold));
            int[] left = new int[hold];
            for (int i = 0; i < hold; i++) {
                left[i] = i + 1;
            }
            Due.row(x, 1, left);
            Due.is("learn once more", STATE, x.learn(1, hold));
            Due.row(x, 1, left);
        }
        Due.refuses("hold 0;", 3, 5);
        Due.refuses("hold 10;", 3, 5);
    }

    private static void joins() {
        for (int n = 0; n <= 4; n++) {
            Hands x = Due.told("join 1 2 3;".repeat(n));
            Due.is("rule(2)", n, x.rule(2));
            Due.is("the last join", n == 0 ? BAD : 3, x.join(n - 1, 2));
            Due.is("join behind the last", BAD, x.join(n, 2));
        }
        Due.refuses("join 1 2 3;".repeat(5), 5, 44);
        Due.refuses("join 1 1 3;", 4, 7);
        Due.refuses("join 1 2 1;", 4, 9);
        Due.refuses("join 1 2 2;", 4, 9);
        // all four of them count
        Hands x = Due.told("knows 0 1 2 4 5 7 8;join 1 2 3;join 4 5 6;join 7 8 9;join 10 11 12;");
        Due.is("learn(0, 10)", 4, x.learn(0, 10));
        Due.is("learn(0, 11)", 4, x.learn(0, 11));
        Due.row(x, 0, 3, 6, 9, 12);
    }

    private static void hands() {
        for (int n = 15; n <= 16; n++) {
            Hands x = Due.told("hand 0 1;".repeat(n));
            Due.is("rule(3)", n, x.rule(3));
            Due.is("the last hand", 0, x.hand(n - 1, false));
            Due.is("hand behind the last", BAD, x.hand(n, false));
            Due.is("feast of all", 0, x.feast(n));
        }
        Due.refuses("hand 0 1;".repeat(17), 5, 144);
        for (int n = 7; n <= 8; n++) {
            Hands x = Due.told("daily 0 2;".repeat(n));
            Due.is("rule(4)", n, x.rule(4));
            Due.is("the last daily", 1, x.hand(n - 1, true));
            Due.is("daily behind the last", BAD, x.hand(n, true));
        }
        Due.refuses("daily 0 1;".repeat(9), 5, 80);
        Due.refuses("hand 1 1;", 4, 7);
        Due.refuses("daily 1 1;", 4, 8);
        // the 16th and the 8th are shaken like the others
        Hands x = Due.told("knows 0 4;" + "hand 0 1;".repeat(15) + "hand 0 2;" + "daily 0 1;".repeat(7) + "daily 0 2;");
        Due.is("told by the 16th", 15, x.told(2, 4));
        x.days(1);
        Due.is("who(4)", 7, x.who(4));
    }

    private static void gloves() {
        Hands x = Due.told("people 6;" + "glove 0;glove 1;glove 2;glove 3;glove 4;");
        Due.is("five wear GLOVES", 5, x.rule(5));
        Due.is("glove(5, true)", 0, x.glove(5, true));
        Due.is("six wear GLOVES", 6, x.rule(5));
        for (int p = 0; p < 6; p++) {
            Due.is("glove(p, false)", 1, x.glove(p, false));
            Due.is("rule(5)", 5 - p, x.rule(5));
        }
    }

    private static void places() {
        Due.refuses("#", 1, 0);
        Due.refuses(" ".repeat(318) + "#", 1, 318);
        Due.refuses(" ".repeat(319) + "#", 1, 319);
        Due.refuses(" ".repeat(312) + "hold 3 ", 2, 319);
        Due.refuses(" ".repeat(312) + "hold 3  ", 2, 320);
        Due.told(" ".repeat(312) + "hold 3; ");
        Due.told(" ".repeat(313) + "hold 3;");
        Hands x = new Hands();
        Due.lay(x, " ".repeat(320));
        Due.is("feed behind 320", FULL, x.feed(0));
        Due.is("count(4)", 320, x.count(4));
        Due.is("text() of 320 blanks", 0, x.text());
    }

    private static void asLongAsMayBe() {
        Due.is("rule(0)", 5, Due.told("people5;").rule(0));
        Due.refuses("holdhold 3;", 2, 0);
        Due.refuses("hol d 3;", 2, 0);
        Due.refuses("hold 1 2;", 2, 7);
        Due.refuses("hold 12;", 3, 5);
        Due.row(Due.told("knows 0 12;"), 0, 12);
        Due.row(Due.told("knows 0 1 2;"), 0, 1, 2);
    }

    private static void blanks() {
        Due.told("hold 3;");
        Due.told(" hold 3;");
        Due.told("hold  3;");
        Due.told("hold 3 ;");
        Due.told("hold 3; ");
        Due.told(" ".repeat(100) + "hold" + " ".repeat(100) + "3" + " ".repeat(100) + ";" + " ".repeat(14));
        int[] others = {0, 9, 10, 13, 31, 33, 127, 160, 255};
        for (int other : others) {
            char sign = (char) other;
            Due.refuses(sign + "hold 3;", 1, 0);
            Due.refuses("hold" + sign + "3;", 1, 4);
            Due.refuses("hold 3" + sign + ";", 1, 6);
            Due.refuses("hold 3;" + sign, 1, 7);
        }
    }

    private static void noBlank() {
        Hands x = Due.told("people4;hold3;knows3 1 2;hand0 3;glove0;");
        Due.row(x, 3, 1, 2);
        Due.is("hand(0, false)", 3, x.hand(0, false));
        Due.refuses("peoplehold 3;", 2, 0);
        Due.refuses("people hold 3;", 2, 7);
        // 0 and 1 without a blank are one NUMBER
        Due.refuses("hand 01;", 2, 7);
        Due.told("hand 0 1;");
        Due.told("hand 00 01;");
        Due.refuses("hand 0001;", 1, 5);
    }

    private static void names() {
        // the bytes just outside of a .. z, and A, Z
        for (char sign : new char[] {96, 123, 'A', 'Z', 225}) {
            Due.refuses("hold 3;" + sign, 1, 7);
            Due.refuses("hol" + sign + " 3;", 2, 0);
        }
        Due.refuses("hold 3;a", 2, 7);
        Due.refuses("hold 3;z", 2, 7);
        Due.refuses("hold 3;az", 2, 7);
    }

    private static void numbers() {
        Due.is("one figure", 9, Due.told("hold 9;").rule(1));
        Due.is("two figures", 9, Due.told("hold 09;").rule(1));
        Due.refuses("hold 009;", 1, 5);
        Due.refuses("hold 0000000000000009;", 1, 5);
        Due.refuses("hold 4294967297;", 1, 5);
        Due.refuses("hold ;", 2, 5);
        // the bytes just outside of 0 .. 9
        Due.refuses("hold /;", 1, 5);
        Due.refuses("hold :;", 1, 5);
        Due.refuses("hold 3/;", 1, 6);
        Due.refuses("hold 3:;", 1, 6);
        Due.row(Due.told("knows 0 00 9 10 15;"), 0, 0, 9, 10, 15);
        Due.refuses("knows 0 1 -1;", 1, 10);
        Due.refuses("knows 0 1 +1;", 1, 10);
    }

    private static void sign() {
        Due.told("hold 3;");
        Due.refuses("hold 3.", 1, 6);
        Due.refuses("hold 3,", 1, 6);
        Due.refuses("hold 3:", 1, 6);
        Due.refuses("hold 3<", 1, 6);
        Due.refuses("hold 3;.", 1, 7);
        Due.refuses("hold 3;;", 2, 7);
        Due.refuses("hold 3", 2, 6);
    }

    private static void lines() {
        Due.told("");
        Due.told(" ");
        Due.told("hold 3;");
        Due.told("hold 3;people 2;");
        // as many lines as there can be of some kinds
        String most = "people2;hold1;knows0 1;knows1 1;glove0;glove1;" + "join1 2 3;".repeat(4) + "hand0 1;".repeat(16)
                + "daily0 1;".repeat(8);
        Due.told(most);
        Due.refuses(most + "hold", 4, most.length());
        Due.refuses(";", 2, 0);
        Due.refuses("hold 3;3", 2, 7);
    }

    /** As many NUMBERS as its line takes, and the sign; any line behind any other. */
    private static void eachLine() {
        String[] lines = {"people 6;", "hold 9;", "knows 2 1;", "join 1 2 3;", "hand 4 5;", "daily 5 4;", "glove 3;"};
        for (String line : lines) {
            String ahead = line.equals(lines[0]) ? "hold 8;" : lines[0];
            String whole = ahead + line.substring(0, line.length() - 1);
            Due.told(whole + ";");
            Due.refuses(whole, 2, whole.length());
            Due.refuses(whole + " hold 3;", 2, whole.length() + 1);
            Due.refuses(whole + ";;", 2, whole.length() + 1);
            for (int cut = whole.lastIndexOf(' '); cut > ahead.length(); cut = whole.lastIndexOf(' ', cut - 1)) {
                Due.refuses(whole.substring(0, cut) + ";", 2, cut);
            }
            if (line.startsWith("knows")) {
                Due.told(whole + " 7;");
                Due.told(whole + " 7 8;");
            } else {
                Due.refuses(whole + " 7;", 2, whole.length() + 1);
            }
            for (String other : lines) {
                if (!other.equals(line)) {
                    Due.told(line + other + ((line + other).contains(lines[0]) ? "" : lines[0]));
                }
            }
        }
    }

    private static void knowsLine() {
        bounds("people 6;knows ", " 1;", 0, 5, 15);
        bounds("knows 0 ", ";", 0, 15, 8);
        bounds("knows 0 1 ", ";", 2, 15, 10, 16);
        bounds("knows 0 1 2 3 4 5 6 7 8 ", ";", 9, 15, 24, 16);
        // how many: none, one, eight, nine, ten
        Due.refuses("knows 0;", 2, 7);
        Due.row(Due.told("knows 0 7;"), 0, 7);
        Due.row(Due.told("knows 0 8 7 6 5 4 3 2 1;"), 0, 8, 7, 6, 5, 4, 3, 2, 1);
        Due.row(Due.told("knows 0 8 7 6 5 4 3 2 1 0;"), 0, 8, 7, 6, 5, 4, 3, 2, 1, 0);
        Twins.leavesByText(Twins.RICH, "knows 0 8 7 6 5 4 3 2 1 0 9;", 5, 26);
    }

    /** THINGS from low to high may stand there, `above` not. */
    private static void bounds(String ahead, String behind, int low, int high, int place, int above) {
        for (int thing = low; thing <= high; thing++) {
            Due.told(ahead + thing + behind);
        }
        Due.refuses(ahead + above + behind, 3, place);
    }

    private static void joinLine() {
        bounds("join ", " 7 8;", 0, 15, 5);
        bounds("join 7 ", " 8;", 0, 15, 7);
        bounds("join 7 8 ", ";", 0, 15, 9);
        Due.told("join 0 15 14;");
        Due.told("join 15 0 1;");
        Due.refuses("join 0 0 1;", 4, 7);
        Due.refuses("join 15 14 15;", 4, 11);
        Due.refuses("join 14 15 15;", 4, 11);
        Due.refuses("join 1 01 2;", 4, 7);
    }

    private static void handLines() {
        for (String name : new String[] {"hand", "daily"}) {
            int place = 10 + name.length();
            bounds("people 6;" + name + " ", " 1;", 0, 5, place);
            bounds("people 6;" + name + " 1 ", ";", 0, 5, place + 2);
            Due.refuses("people 6;" + name + " 0 0;", 4, place + 2);
            Due.refuses("people 6;" + name + " 5 5;", 4, place + 2);
            Due.refuses("people 6;" + name + " 5 05;", 4, place + 2);
        }
    }

    // ---- FAULTS

    private static void firstMet() {
        // what stands behind a TOKEN is not read ahead of its being taken
        Due.refuses("hold 3;hold#", 4, 7);
        Due.refuses("hold 0#", 3, 5);
        Due.refuses("knows 0 1;knows 0#", 4, 16);
        Due.refuses("knows 0 1 1#", 4, 10);
        Due.refuses("hand 1 1#", 4, 7);
        Due.refuses("join 1 2 2#", 4, 9);
        Due.refuses("glove 0;glove 0#", 4, 14);
        Due.refuses("hand 0 1;".repeat(16) + "hand#", 5, 144);
        Due.refuses("x#", 2, 0);
        // the byte behind it is, once it has been taken
        Due.refuses("hold#", 1, 4);
        Due.refuses("hold 3#", 1, 6);
        Due.refuses("knows 0 1#", 1, 9);
        Due.refuses("hold 3;#", 1, 7);
        // what shows behind all comes last
        Due.refuses("glove 3;x", 2, 8);
        Due.refuses("hold 1;knows 0 1 2;#", 1, 19);
        Due.refuses("glove 3;glove 3;", 4, 14);
    }

    private static void noToken() {
        for (int sign = 0; sign < 256; sign++) {
            boolean begins = sign == ' ' || sign == ';' || sign >= 'a' && sign <= 'z' || sign >= '0' && sign <= '9';
            if (!begins) {
                Due.refuses("" + (char) sign, 1, 0);
                Due.refuses("hold 3; " + (char) sign + "hold", 1, 8);
            }
        }
        Due.refuses("99", 2, 0);
        Due.refuses("100", 1, 0);
        Due.refuses("hold 99", 3, 5);
        Due.refuses("hold  100", 1, 6);
        Due.refuses("hold  001;", 1, 6);
        Due.refuses("hold 1;000", 1, 7);
    }

    private static void misplaced() {
        Due.refuses("peopl 3;", 2, 0);
        Due.refuses("people 3;peoples 3;", 2, 9);
        Due.refuses("text 3;", 2, 0);
        Due.refuses("line", 2, 0);
        Due.refuses("a", 2, 0);
        String[] lines = {"people 3;", "hold 3;", "knows 0 1;", "join 1 2 3;", "hand 0 1;", "daily 0 1;", "glove 0;"};
        for (String line : lines) {
            // the end within a line: the length, blanks behind it, too
            for (int cut = 1; cut < line.length(); cut++) {
                String part = line.substring(0, cut);
                boolean name = cut < line.indexOf(' ');
                Due.refuses(part, 2, name ? 0 : cut);
                Due.refuses(part + "  ", 2, name ? 0 : cut + 2);
            }
            Due.told(line + "  ");
            otherNames(line);
            // a sign, a NAME, a NUMBER in place of each TOKEN
            for (int at = 0; at < line.length(); at++) {
                if (at == 0 || line.charAt(at - 1) == ' ' || line.charAt(at) == ';') {
                    String ahead = line.substring(0, at);
                    boolean number = line.charAt(at) >= '0' && line.charAt(at) <= '9';
                    boolean more = line.startsWith("knows") && line.charAt(at) == ';';
                    Due.refuses(ahead + (number || at == 0 ? ";" : " x"), 2, number || at == 0 ? at : at + 1);
                    Due.refuses(ahead + (number ? "hold" : more ? " hold" : " 1"), 2, number ? at : at + 1);
                }
            }
        }
    }

    /** A NAME with one letter changed, too few or too many begins no line. */
    private static void otherNames(String line) {
        int length = line.indexOf(' ');
        for (int i = 0; i < length; i++) {
            char other = line.charAt(i) == 'z' ? 'a' : (char) (line.charAt(i) + 1);
            Due.refuses(line.substring(0, i) + other + line.substring(i + 1), 2, 0);
            Due.refuses(line + line.substring(0, i) + line.substring(i + 1), 2, line.length());
            Due.refuses(line.substring(0, i) + "a" + line.substring(i), 2, 0);
        }
        Due.refuses(line.substring(0, length) + "s" + line.substring(length), 2, 0);
    }

    private static void outOfBounds() {
        Twins.leavesByText(Twins.RICH, "people 1;", 3, 7);
        Twins.leavesByText(Twins.RICH, "people 7;", 3, 7);
        Twins.leavesByText(Twins.RICH, "hold 0;", 3, 5);
        Twins.leavesByText(Twins.RICH, "hold 10;", 3, 5);
        Twins.leavesByText(Twins.RICH, "knows 6 1;", 3, 6);
        Twins.leavesByText(Twins.RICH, "knows 0 16;", 3, 8);
        Twins.leavesByText(Twins.RICH, "knows 0 1 16;", 3, 10);
        Twins.leavesByText(Twins.RICH, "join 16 1 2;", 3, 5);
        Twins.leavesByText(Twins.RICH, "join 1 16 2;", 3, 7);
        Twins.leavesByText(Twins.RICH, "join 1 2 16;", 3, 9);
        Twins.leavesByText(Twins.RICH, "hand 6 1;", 3, 5);
        Twins.leavesByText(Twins.RICH, "hand 1 6;", 3, 7);
        Twins.leavesByText(Twins.RICH, "daily 6 1;", 3, 6);
        Twins.leavesByText(Twins.RICH, "daily 1 6;", 3, 8);
        Twins.leavesByText(Twins.RICH, "glove 6;", 3, 6);
        // 3 to 5 are in bounds, though there may be no such ONE
        Due.refuses("glove 5;", 6, 8);
        Due.told("people 6;glove 5;");
    }

    private static void secondName() {
        Due.told("people 3;hold 3;");
        Twins.leavesByText(Twins.RICH, "people 3;people 3;", 4, 9);
        Twins.leavesByText(Twins.RICH, "hold 3;hold 3;", 4, 7);
        Due.refuses("people 3;hold 3;  people 4;", 4, 18);
        Due.refuses("hold 3;people 3;hold", 4, 16);
        // each text begins anew
        Hands x = Due.told("people 4;hold 4;knows 3 1;glove 3;");
        Due.tell(x, "people 5;hold 5;knows 3 1;glove 3;");
        Due.refuses(x, "people 4;people", 4, 9);
        Due.tell(x, "people 6;hold 6;");
        Due.is("rule(0)", 6, x.rule(0));
    }

    private static void secondOne() {
        Due.told("people 6;knows 0 1;knows 1 1;knows 2 1;knows 3 1;knows 4 1;knows 5 1;");
        Due.told("people 6;glove 0;glove 1;glove 2;glove 3;glove 4;glove 5;");
        Due.told("knows 0 1;glove 0;");
        for (int p = 0; p < 6; p++) {
            Due.refuses("people 6;knows " + p + " 1;knows " + p + " 2;", 4, 25);
            Due.refuses("people 6;glove " + p + ";glove " + p + ";", 4, 23);
            Due.told("people 6;knows " + p + " 1;knows " + (p + 1) % 6 + " 1;");
            Due.told("people 6;glove " + p + ";glove " + (p + 1) % 6 + ";");
        }
        Twins.leavesByText(Twins.RICH, "glove 1;glove 01;", 4, 14);
        Twins.leavesByText(Twins.RICH, "knows 1 1;knows 01 2;", 4, 16);
    }

    private static void alike() {
        for (int thing = 0; thing < 16; thing++) {
            Due.refuses("knows 0 " + thing + " " + thing + ";", 4, thing < 10 ? 10 : 11);
            Due.told("knows 0 " + thing + " " + (thing + 1) % 16 + ";");
        }
        Due.refuses("knows 0 1 2 3 4 5 6 7 8 1;", 4, 24);
        Due.refuses("knows 0 1 2 3 4 5 6 7 8 8;", 4, 24);
        Due.told("knows 0 1 2 3 4 5 6 7 8 9;");
        // another ONE may know it
        Due.told("knows 0 1;knows 1 1;");
        Due.refuses("join 3 3 4;", 4, 7);
        Due.refuses("join 3 4 3;", 4, 9);
        Due.refuses("join 4 3 3;", 4, 9);
        Due.told("join 3 4 5;join 3 4 5;join 4 3 5;");
        Due.refuses("hand 2 2;", 4, 7);
        Due.refuses("daily 2 2;", 4, 8);
        Due.told("hand 2 1;hand 2 1;hand 1 2;daily 1 2;daily 1 2;");
    }

    private static void tooMany() {
        Due.told("join 1 2 3;".repeat(4));
        Twins.leavesByText(Twins.RICH, "join 1 2 3;".repeat(4) + " join 1 2 3;", 5, 45);
        Due.told("hand 0 1;".repeat(16));
        Twins.leavesByText(Twins.RICH, "hand 0 1;".repeat(16) + " hand 0 1;", 5, 145);
        Due.told("daily 0 1;".repeat(8));
        Twins.leavesByText(Twins.RICH, "daily 0 1;".repeat(8) + " daily 0 1;", 5, 81);
        Due.told("knows 0 1 2 3 4 5 6 7 8 9;");
        Twins.leavesByText(Twins.RICH, "knows 0 1 2 3 4 5 6 7 8 9  10;", 5, 27);
        Due.refuses("join 1 2 3;".repeat(4) + "join", 5, 44);
        Due.refuses("hand 0 1;".repeat(16) + "hand 1 1;", 5, 144);
        Due.refuses("daily 0 1;".repeat(8) + "daily 9 9;", 5, 80);
        // each kind by itself, and each text anew
        String full = "join 1 2 3;".repeat(4) + "hand 0 1;".repeat(16) + "daily 0 1;".repeat(8);
        Hands x = Due.told(full);
        Due.tell(x, full);
        Due.refuses(x, full + "hand", 5, full.length());
        Due.tell(x, full);
    }

    private static void noSuchOne() {
        for (int n = 2; n <= 6; n++) {
            String people = "people " + n + ";";
            int last = n - 1;
            String[] fine = {"knows " + last + " 1;", "hand 0 " + last + ";", "hand " + last + " 0;", "daily 0 " + last + ";",
                "daily " + last + " 0;", "glove " + last + ";"};
            String[] beyond = {"knows " + n + " 1;", "hand 0 " + n + ";", "hand " + n + " 0;", "daily 0 " + n + ";",
                "daily " + n + " 0;", "glove " + n + ";"};
            for (int i = 0; i < fine.length; i++) {
                Due.told(people + fine[i]);
                Due.told(fine[i] + people);
                if (n < 6) {
                    Due.refuses(people + beyond[i], 6, 9 + beyond[i].length());
                    Due.refuses(beyond[i] + people + " ", 6, 10 + beyond[i].length());
                }
            }
        }
        // three at first
        Due.told("glove 2;");
        Twins.leavesByText(Twins.RICH, "glove 3;", 6, 8);
        Twins.leavesByText(Twins.RICH, "knows 3 1;", 6, 10);
        Twins.leavesByText(Twins.RICH, "hand 3 1;", 6, 9);
        Twins.leavesByText(Twins.RICH, "daily 1 3;", 6, 10);
        // ahead of 7
        Due.refuses("hold 1;knows 3 1 2;", 6, 19);
    }

    private static void overHold() {
        for (int hold = 1; hold <= 9; hold++) {
            StringBuilder row = new StringBuilder("knows 1");
            for (int i = 0; i < hold; i++) {
                row.append(' ').append(i);
            }
            String line = "hold " + hold + ";";
            Due.told(line + row + ";");
            Due.told(row + ";" + line);
            row.append(" 15");
            Due.refuses(line + row + ";", hold < 9 ? 7 : 5, row.length() + (hold < 9 ? 8 : 5));
            if (hold < 9) {
                Due.refuses(row + ";" + line + "  ", 7, row.length() + 10);
                Due.refuses("knows 0 1;" + row + ";" + line + "knows 2 1;", 7, row.length() + 28);
            }
        }
        Twins.leavesByText(Twins.RICH, "hold 1;knows 0 1 2;", 7, 19);
        Due.told("knows 0 1 2 3 4 5 6 7 8 9;");
        // the ROWS of a text ahead of it, taken or not, are none of its own
        Hands x = Due.told("people 6;knows 5 1 2 3 4 5 6 7 8 9;");
        Due.tell(x, "hold 1;knows 0 1;");
        Due.refuses(x, "people 6;knows 5 1 2 3 4 5 6 7 8 9;hold 8;", 7, 42);
        Due.tell(x, "hold 1;knows 0 1;");
    }

    private static void takenText() {
        // RICH, and then an empty text: all as at first, but for SHEETS and what torn() tells
        Hands x = new Hands();
        Twins.RICH.accept(x);
        x.end(0);
        Due.is("text()", 0, x.text());
        int[] atFirst = {3, 9, 0, 0, 0, 0};
        for (int what = 0; what <= 5; what++) {
            Due.is("rule(" + what + ")", atFirst[what], x.rule(what));
        }
        for (int what = 0; what <= 4; what++) {
            Due.is("count(" + what + ")", 0, x.count(what));
        }
        for (int p = 0; p < 3; p++) {
            Due.row(x, p);
            Due.is("glove(p, false)", 0, x.glove(p, false));
        }
        Due.is("knows(3)", BAD, x.knows(3));
        Due.is("hand(0, false)", BAD, x.hand(0, false));
        Due.is("hand(0, true)", BAD, x.hand(0, true));
        Due.is("join(0, 0)", BAD, x.join(0, 0));
        Due.is("back(0)", STATE, x.back(0));
        Due.is("back(1)", STATE, x.back(1));
        Due.is("least()", 0, x.least());
        Due.is("torn() stays", 2, x.torn());
        Due.is("fault()", 0, x.fault());
        Due.is("count(5)", 5, x.count(5));
        Due.is("SHEET 0 stays", 2, x.read(0, 0, 0, 2));
        Due.is("SHEET 1 stays", 2, x.read(1, 1, 0, 2));
        Due.is("SHEET 2 stays", 0, x.read(2, 2, 0, 1));
        Due.is("torn()", 2, x.torn());
        Due.is("SHEET 3 stays", 0, x.read(3, 2, 0, 1));
        Due.is("torn()", 1, x.torn());
        // fewer PEOPLE and then more: who comes back knows nothing
        x = Due.told("people 6;knows 5 1;glove 5;");
        Due.tell(x, "people 2;");
        Due.tell(x, "people 6;");
        Due.row(x, 5);
        Due.is("rule(5)", 0, x.rule(5));
        Due.is("count(0)", 0, x.count(0));
    }

    private static void notYetMade() {
        Hands x = Due.told("join 1 2 3;knows 0 1 2;");
        Due.row(x, 0, 1, 2);
        Due.is("keep(0)", 0, x.keep(0));
        Due.is("back(0)", 6, x.back(0));
        Due.row(x, 0, 1, 2);
        Due.is("forget(0, 3)", NONE, x.forget(0, 3));
        Due.row(x, 0, 1, 2);
        Due.is("learn(0, 9)", 2, x.learn(0, 9));
        Due.row(x, 0, 9, 3);
    }

    // ---- promises 1 to 8

    private static void newObject() {
        Hands x = new Hands();
        int[] atFirst = {3, 9, 0, 0, 0, 0};
        for (int what = 0; what <= 5; what++) {
            Due.is("rule(" + what + ")", atFirst[what], x.rule(what));
            Due.is("count(" + what + ")", what == 5 ? NONE : 0, x.count(what));
        }
        for (int p = 0; p < 3; p++) {
            Due.row(x, p);
        }
        for (int thing = 0; thing < 16; thing++) {
            Due.is("who(" + thing + ")", 0, x.who(thing));
            Due.is("lives(" + thing + ")", 0, x.lives(thing));
            Due.is("lose(" + thing + ")", 0, x.lose(thing));
            Due.is("lost(" + thing + ")", STATE, x.lost(thing));
        }
        for (int k = 0; k < 4; k++) {
            Due.is("lay of nothing", -11, x.lay(k, 0, 0));
            Due.is("read of nothing", 0, x.read(k, 2, 0, 1));
            Due.is("torn()", 1, x.torn());
        }
        Due.is("fault()", 0, x.fault());
        Due.is("blind()", 0, x.blind());
        Due.is("back(0)", STATE, x.back(0));
        Due.is("back(1)", STATE, x.back(1));
        Due.is("end(0)", 0, x.end(0));
    }

    private static void feed() {
        Hands x = new Hands();
        for (int i = 1; i <= 40; i++) {
            Due.is("feed", 8 * i, x.feed(0x2020202020202020L));
        }
        x = new Hands();
        Due.is("feed", 8, x.feed(0x686F6C6420343B20L));
        Due.is("end(7)", 8, x.end(7));
        Due.is("feed behind seven", 15, x.feed(0x70656F706C652034L));
        Due.is("feed", 23, x.feed(0x3B20202020202020L));
        Due.is("text()", 2, x.text());
        Due.is("rule(1)", 4, x.rule(1));
        Due.is("rule(0)", 4, x.rule(0));
        // each byte at its place, the highest and the lowest, with all their bits
        x.feed(0xFF20202020202020L);
        Due.is("the highest byte", -10, x.text());
        x.feed(0x20202020202020FFL);
        Due.is("the lowest byte", -17, x.text());
        x.feed(Long.MIN_VALUE);
        Due.is("the lowest number", -10, x.text());
        x.feed(Long.MAX_VALUE);
        Due.is("the highest number", -10, x.text());
        x.feed(0x2020202080202020L);
        Due.is("a byte above 127", -14, x.text());
    }

    private static void feedFull() {
        // 312 bytes take eight more, 313 do not
        for (int had = 311; had <= 320; had++) {
            Hands x = new Hands();
            Due.lay(x, " ".repeat(had));
            Due.is("count(4)", had, x.count(4));
            Due.is("feed behind " + had, had <= 312 ? had + 8 : FULL, x.feed(0x2323232323232323L));
            Due.is("count(4)", had <= 312 ? had + 8 : had, x.count(4));
            Due.is("text()", had <= 312 ? -10 - had : 0, x.text());
        }
        for (int had = 313; had <= 320; had++) {
            int n = had;
            Twins.leaves(x -> fill(x, n), "feed behind " + had, FULL, x -> x.feed(0x2323232323232323L));
        }
    }

    /** RICH, with so many bytes on THE TAPE. */
    private static void fill(Hands x, int bytes) {
        Twins.RICH.accept(x);
        x.end(0);
        Due.lay(x, "people 5;hold 2;" + " ".repeat(bytes - 16));
    }

    private static void end() {
        Hands x = new Hands();
        Due.is("end(0) of none", 0, x.end(0));
        Due.lay(x, "hold 3;people 4;");
        Due.is("end(16)", 16, x.end(16));
        Due.is("end(15)", 16, x.end(15));
        Due.is("count(4)", 15, x.count(4));
        Due.is("end(7)", 15, x.end(7));
        Due.is("text()", 1, x.text());
        Due.is("rule(1)", 3, x.rule(1));
        Due.is("rule(0)", 3, x.rule(0));
        Due.lay(x, "hold 4;");
        Due.is("end(0)", 7, x.end(0));
        Due.is("end(0)", 0, x.end(0));
        Due.is("text() of none", 0, x.text());
        Due.lay(x, " ".repeat(320));
        Due.is("end(320)", 320, x.end(320));
        Due.is("end(319)", 320, x.end(319));
        Due.is("end(1)", 319, x.end(1));
        Due.is("end(1)", 1, x.end(1));
    }

    private static void endBad() {
        for (int n : new int[] {-1, MIN, 17, 320, 321, MAX}) {
            Twins.leaves(Twins.RICH, "end(" + n + ") of 16", BAD, x -> x.end(n));
        }
        for (int n : new int[] {-1, MIN, 1, 320, MAX}) {
            Twins.leaves(Twins.NEW, "end(" + n + ") of none", BAD, x -> x.end(n));
        }
        for (int n : new int[] {-1, 321, MAX}) {
            Twins.leaves(x -> fill(x, 320), "end(" + n + ") of 320", BAD, x -> x.end(n));
        }
        // what was cut off is gone
        Hands x = new Hands();
        Due.lay(x, "hold 3;people 4;");
        x.end(7);
        Due.is("end(8) of seven", BAD, x.end(8));
        Due.is("end(16) of seven", BAD, x.end(16));
        Due.is("end(7)", 7, x.end(7));
    }

    private static void text() {
        Hands x = new Hands();
        Due.is("text() of none", 0, x.text());
        Due.tell(x, "hold 3;");
        Due.is("count(4)", 0, x.count(4));
        Due.is("end(1)", BAD, x.end(1));
        Due.refuses(x, "hold", 2, 4);
        Due.is("count(4) behind a FAULT", 0, x.count(4));
        Due.is("end(1) behind a FAULT", BAD, x.end(1));
        Due.tell(x, "hold 3;people 2;hand 0 1;");
        Due.is("rule(3)", 1, x.rule(3));
        Due.is("text() once more", 0, x.text());
        Due.is("rule(3)", 0, x.rule(3));
    }

    private static void textRefused() {
        Twins.leavesByText(Twins.RICH, "#", 1, 0);
        Twins.leavesByText(Twins.RICH, " ".repeat(319) + "#", 1, 319);
        Twins.leavesByText(Twins.RICH, "people 2;" + " ".repeat(307) + "hold", 2, 320);
        Due.refuses(" ".repeat(320 - 8) + "glove 3;", 6, 320);
        Due.refuses(" ".repeat(320 - 9) + "glove 3; ", 6, 320);
    }

    private static void fault() {
        Hands x = new Hands();
        Due.is("fault() at first", 0, x.fault());
        String[] texts = {"", "#", ";", "hold 0;", "hold 1;hold", "knows 0 0 1 2 3 4 5 6 7 8 9", "glove 3;",
            "hold 1;knows 0 1 2;"};
        int[] places = {0, 0, 0, 5, 7, 26, 8, 19};
        for (int fault = 7; fault >= 1; fault--) {
            Due.refuses(x, texts[fault], fault, places[fault]);
            Due.is("fault() once more", fault, x.fault());
        }
        x.feed(0);
        x.learn(0, 1);
        Due.is("fault() behind other calls", 1, x.fault());
        Due.is("end(9)", BAD, x.end(9));
        Due.is("fault() behind a refused one", 1, x.fault());
        x.end(0);
        Due.is("text()", 0, x.text());
        Due.is("fault() of one that is taken", 0, x.fault());
    }

    private static void rule() {
        int[] due = {4, 3, 2, 3, 2, 1};
        Hands x = new Hands();
        Twins.RICH.accept(x);
        for (int what = 0; what <= 5; what++) {
            Due.is("rule(" + what + ")", due[what], x.rule(what));
        }
        for (int what : new int[] {-1, 6, MIN, MAX}) {
            Twins.leaves(Twins.RICH, "rule(" + what + ")", BAD, y -> y.rule(what));
        }
    }

    private static void hand() {
        for (boolean daily : new boolean[] {false, true}) {
            String line = daily ? "daily" : "hand";
            int many = daily ? 8 : 16;
            Hands x = Due.told("people 6;" + (line + " 4 5;").repeat(many - 1) + line + " 5 0;");
            Due.is("the first", 14, x.hand(0, daily));
            Due.is("the last but one", 14, x.hand(many - 2, daily));
            Due.is("the last", 10, x.hand(many - 1, daily));
            Due.is("behind the last", BAD, x.hand(many, daily));
            Due.is("ahead of the first", BAD, x.hand(-1, daily));
            Due.is("of the others, there is none", BAD, x.hand(0, !daily));
        }
        Due.is("the 16th of 15", BAD, Due.told("hand 0 1;".repeat(15)).hand(15, false));
        // RICH has three HANDS, two DAILY ones
        for (int i : new int[] {-1, 3, 16, MIN, MAX}) {
            Twins.leaves(Twins.RICH, "hand(" + i + ", false)", BAD, x -> x.hand(i, false));
        }
        for (int i : new int[] {-1, 2, 8, MIN, MAX}) {
            Twins.leaves(Twins.RICH, "hand(" + i + ", true)", BAD, x -> x.hand(i, true));
        }
    }

    private static void join() {
        Hands x = Due.told("join 0 15 1;join 15 0 14;join 5 4 3;join 4 5 3;");
        int[][] due = {{0, 15, 1}, {15, 0, 14}, {5, 4, 3}, {4, 5, 3}};
        for (int j = 0; j < 4; j++) {
            for (int what = 0; what < 3; what++) {
                Due.is("join(" + j + ", " + what + ")", due[j][what], x.join(j, what));
            }
            Due.is("join(" + j + ", -1)", BAD, x.join(j, -1));
            Due.is("join(" + j + ", 3)", BAD, x.join(j, 3));
        }
        Due.is("join(4, 0)", BAD, x.join(4, 0));
        Due.is("join(-1, 0)", BAD, x.join(-1, 0));
        // RICH has two of them
        for (int j : new int[] {-1, 2, 4, MIN, MAX}) {
            Twins.leaves(Twins.RICH, "join(" + j + ", 0)", BAD, y -> y.join(j, 0));
        }
        for (int what : new int[] {-1, 3, MIN, MAX}) {
            Twins.leaves(Twins.RICH, "join(1, " + what + ")", BAD, y -> y.join(1, what));
        }
    }
}
