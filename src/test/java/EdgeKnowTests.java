/** Sentences that name a boundary: A HAND and THE HABIT, promises 9 to 19 and 23 to 25. */
final class EdgeKnowTests {
    private static final int BAD = ShakeHands.BAD;
    private static final int STATE = ShakeHands.STATE;
    private static final int NONE = ShakeHands.NONE;
    private static final int MIN = Integer.MIN_VALUE;
    private static final int MAX = Integer.MAX_VALUE;
    /** What is no ONE of four PEOPLE, no THING. */
    private static final int[] NO_ONE = {-1, 4, 5, 6, MIN, MAX};
    private static final int[] NO_THING = {-1, 16, 32, MIN, MAX};

    private EdgeKnowTests() {
    }

    static void run() {
        terms();
        who();
        feast();
        habit();
    }

    private static void terms() {
        says(0, "A HAND of two: if either wears GLOVES, nothing comes of it.", EdgeKnowTests::eitherWears);
        says(0, "Else one ROW: that of the lesser number, behind it those THINGS of the other ROW that are not in it, by "
                + "their order.", EdgeKnowTests::oneRow);
        says(0, "Then, as long as there is a JOIN (the first of them) of which both are in it:", EdgeKnowTests::firstJoin);
        says(0, "both are taken out, what they become comes last (if it is in it already, it stays where it is).",
                EdgeKnowTests::becomes);
        says(0, "Then the eldest fall out, till there are HOLD. Both have that ROW.", EdgeKnowTests::fallOut);
        says(0, "PAIRS: ONES a and b (a less than b): b times (b less 1) by 2, and a (0 to 14).", EdgeKnowTests::pairs);
        says(0, "THE HABIT: DAYS, in each all DAILY HANDS by order.", EdgeKnowTests::dailyHands);
    }

    private static void who() {
        says(9, "THINGS that a ONE knows (bits). BAD.", EdgeKnowTests::knows);
        says(10, "THING i of his ROW (0 the eldest).", EdgeKnowTests::row);
        says(10, "BAD (i below 0, too); NONE: he has not so many.", EdgeKnowTests::rowRefused);
        says(11, "PEOPLE who know a THING (bits). BAD.", EdgeKnowTests::whoKnows);
        says(12, "A ONE comes to know a THING (last in his ROW; JOINS are made, then the eldest fall out): how many he "
                + "knows.", EdgeKnowTests::learn);
        says(12, "BAD; STATE: he knows it.", EdgeKnowTests::learnRefused);
        says(13, "He knows it no more: how many he knows.", EdgeKnowTests::forget);
        says(13, "BAD; NONE: he does not know it.", EdgeKnowTests::forgetRefused);
        says(14, "He wears GLOVES, or not: whether he did. BAD.", EdgeKnowTests::glove);
        says(15, "A HAND of two: how many THINGS both know then.", EdgeKnowTests::shake);
        says(15, "BAD (also alike); NONE: GLOVES.", EdgeKnowTests::shakeRefused);
    }

    private static void feast() {
        says(16, "The first n HANDS (0 to as many as there are) of THE FEAST are shaken:", EdgeKnowTests::firstHands);
        says(16, "THINGS that somebody knew and nobody knows then (bits). BAD.", EdgeKnowTests::knewOnce);
        says(17, "By itself: what a ONE knows behind n HANDS (bits). BAD.", EdgeKnowTests::after);
        says(18, "By itself: the HAND (its number) behind which a THING is known to nobody for the first time.",
                EdgeKnowTests::lost);
        says(18, "BAD; STATE: nobody knows it now; NONE: it is always known.", EdgeKnowTests::lostRefused);
        says(19, "By itself: the HAND with which a ONE knows a THING for the first time.", EdgeKnowTests::told);
        says(19, "BAD; STATE: he knows it now; NONE: never.", EdgeKnowTests::toldRefused);
    }

    private static void habit() {
        says(23, "THE HABIT: the DAY (1: the first) behind which nobody knows a THING for the first time (0: nobody knows "
                + "it now).", EdgeKnowTests::lives);
        says(23, "BAD; NONE: not within 200.", EdgeKnowTests::notWithin);
        says(24, "The least DAY (0: now) whose end all ROWS come back to (what 0), behind how many DAYS at first (1).",
                EdgeKnowTests::comes);
        says(24, "BAD; NONE: none within 200 DAYS from now.", EdgeKnowTests::noneWithin);
        says(25, "n DAYS (1 to 99) go: THINGS that somebody knows then (bits). BAD.", EdgeKnowTests::days);
    }

    private static void says(int promise, String words, Runnable test) {
        Sentence.says(promise, words, test);
    }

    // ---- terms

    private static void eitherWears() {
        String text = "knows 0 1;knows 1 2;hand 0 1;daily 0 1;join 1 2 3;";
        String[] worn = {"glove 0;", "glove 1;", "glove 0;glove 1;"};
        for (String gloves : worn) {
            Twins.leaves(Twins.text(text + gloves), "shake", NONE, x -> x.shake(0, 1));
            Twins.leaves(Twins.text(text + gloves), "feast", 0, x -> x.feast(1));
            Twins.leaves(Twins.text(text + gloves), "days", 2 + 4, x -> x.days(99));
        }
        // GLOVES of a third one do not hinder
        Hands x = Due.told(text + "glove 2;");
        Due.is("shake(0, 1)", 1, x.shake(0, 1));
        Due.row(x, 0, 3);
        Due.row(x, 1, 3);
        // nor do those that are off again
        x = Due.told(text + "glove 0;");
        x.glove(0, false);
        Due.is("feast(1)", 2 + 4, x.feast(1));
    }

    private static void oneRow() {
        // ROWS of 0 and 1, and the one that both have behind a HAND of these
        int[][][] rows = {{{}, {}, {}}, {{4}, {}, {4}}, {{}, {4}, {4}}, {{4}, {4}, {4}}, {{4}, {5}, {4, 5}},
            {{5}, {4}, {5, 4}}, {{1, 2}, {3, 1, 4}, {1, 2, 3, 4}}, {{2, 1}, {1, 2}, {2, 1}},
            {{9, 0}, {15, 0, 3, 9}, {9, 0, 15, 3}}};
        for (int[][] r : rows) {
            for (int way = 0; way < 2; way++) {
                Hands x = Due.told(knows(0, r[0]) + knows(1, r[1]));
                Due.is("shake", r[2].length, x.shake(way, 1 - way));
                Due.row(x, 0, r[2]);
                Due.row(x, 1, r[2]);
                Due.row(x, 2);
            }
        }
    }

    private static String knows(int p, int... things) {
        StringBuilder line = new StringBuilder();
        for (int thing : things) {
            line.append(' ').append(thing);
        }
        return things.length == 0 ? "" : "knows " + p + line + ";";
    }

    private static void firstJoin() {
        // one of both is not enough
        Hands x = Due.told("knows 0 1;knows 1 7;join 1 2 3;join 7 8 9;");
        Due.is("one of both", 2, x.shake(0, 1));
        Due.row(x, 0, 1, 7);
        // the first JOIN of two, whatever the order of the ROW
        x = Due.told("knows 0 5 2;knows 1 1;join 1 2 3;join 2 5 6;");
        Due.is("the first", 2, x.shake(0, 1));
        Due.row(x, 0, 5, 3);
        x = Due.told("knows 0 5 2;knows 1 1;join 2 5 6;join 1 2 3;");
        Due.is("the first", 2, x.shake(0, 1));
        Due.row(x, 0, 1, 6);
        // behind each the first is looked for anew
        x = Due.told("knows 0 1 2 4;knows 1 5;join 3 4 6;join 1 2 3;join 5 4 7;");
        Due.is("anew", 2, x.shake(0, 1));
        Due.row(x, 0, 5, 6);
        // as long as there is one: four of them, each by the last
        x = Due.told("knows 0 1 2 5;knows 1 7 9;join 8 9 10;join 6 7 8;join 3 5 6;join 1 2 3;");
        Due.is("four of them", 1, x.shake(0, 1));
        Due.row(x, 1, 10);
        // they come back to what they came from
        x = Due.told("knows 0 1 2;knows 1 4 5;join 1 2 3;join 3 4 1;join 1 5 2;");
        Due.is("once around", 1, x.shake(0, 1));
        Due.row(x, 1, 2);
    }

    private static void becomes() {
        Hands x = Due.told("knows 0 1 9 2;knows 1 8;join 2 1 3;");
        Due.is("it comes last", 3, x.shake(0, 1));
        Due.row(x, 0, 9, 8, 3);
        x = Due.told("knows 0 3 1 9 2;knows 1 8;join 1 2 3;");
        Due.is("it stays first", 3, x.shake(0, 1));
        Due.row(x, 0, 3, 9, 8);
        x = Due.told("knows 0 1 3 9 2;knows 1 8;join 1 2 3;");
        Due.is("it stays", 3, x.shake(0, 1));
        Due.row(x, 0, 3, 9, 8);
        x = Due.told("knows 0 1 9 2;knows 1 3;join 1 2 3;");
        Due.is("it stays last", 2, x.shake(0, 1));
        Due.row(x, 0, 9, 3);
        x = Due.told("knows 0 15;knows 1 0;join 0 15 14;");
        Due.is("nothing else", 1, x.shake(0, 1));
        Due.row(x, 0, 14);
    }

    private static void fallOut() {
        // of three and three THINGS, HOLD from 1 to 9
        for (int hold = 3; hold <= 9; hold++) {
            Hands x = Due.told("hold " + hold + ";knows 0 1 2 3;knows 1 4 5 6;");
            int left = Math.min(hold, 6);
            Due.is("shake", left, x.shake(1, 0));
            int[] row = new int[left];
            for (int i = 0; i < left; i++) {
                row[i] = 7 - left + i;
            }
            Due.row(x, 0, row);
            Due.row(x, 1, row);
        }
        Hands x = Due.told("hold 1;knows 0 1;knows 1 2;");
        Due.is("HOLD 1", 1, x.shake(0, 1));
        Due.row(x, 0, 2);
        x = Due.told("hold 1;knows 0 1;");
        Due.is("HOLD 1 and nothing", 1, x.shake(1, 0));
        Due.row(x, 1, 1);
        // JOINS first: four become three, and none falls out
        x = Due.told("hold 3;knows 0 7 1;knows 1 2 8;join 1 2 3;");
        Due.is("JOINS first", 3, x.shake(0, 1));
        Due.row(x, 0, 7, 8, 3);
        x = Due.told("hold 2;knows 0 7 1;knows 1 2 8;join 1 2 3;");
        Due.is("JOINS first", 2, x.shake(0, 1));
        Due.row(x, 0, 8, 3);
        // all sixteen, and nine of them stay
        x = Due.told("knows 0 0 1 2 3 4 5 6 7;knows 1 8 9 10 11 12 13 14 15;");
        Due.is("sixteen", 9, x.shake(0, 1));
        Due.row(x, 0, 7, 8, 9, 10, 11, 12, 13, 14, 15);
        x = Due.told("knows 0 0 1 2 3 4 5 6 7 8;knows 1 7 8 9 10 11 12 13 14 15;");
        Due.is("nine and nine", 9, x.shake(0, 1));
        Due.row(x, 1, 7, 8, 9, 10, 11, 12, 13, 14, 15);
    }

    private static void pairs() {
        int[][] due = {{0, 1}, {0, 2}, {1, 2}, {0, 3}, {1, 3}, {2, 3}, {0, 4}, {1, 4}, {2, 4}, {3, 4}, {0, 5}, {1, 5},
            {2, 5}, {3, 5}, {4, 5}};
        for (int pair = 0; pair < 15; pair++) {
            int a = due[pair][0];
            int b = due[pair][1];
            Hands x = Due.told("people 6;knows " + b + " 4;hand " + a + " " + b + ";daily " + b + " " + a + ";");
            Due.is("hand(0, false)", pair, x.hand(0, false));
            Due.is("hand(0, true)", pair, x.hand(0, true));
            Due.is("fewest(4, ..)", pair, x.fewest(4, 1 << a, 0, 10));
            x.saw(a, 16);
            Due.is("fits(1, 1)", 1 << pair, x.fits(1, 1));
            Due.is("told", 0, x.told(a, 4));
            x.feast(1);
            Due.is("who(4)", 1 << a | 1 << b, x.who(4));
        }
        int[] many = {1, 3, 6, 10, 15};
        for (int n = 2; n <= 6; n++) {
            Due.is("PAIRS of " + n, (1 << many[n - 2]) - 1, Due.told("people " + n + ";").fits(1, 2));
        }
    }

    private static void dailyHands() {
        Hands x = Due.told("people 4;knows 0 1;daily 0 1;daily 1 2;daily 2 3;");
        x.days(1);
        Due.is("all by order", 15, x.who(1));
        x = Due.told("people 4;knows 0 1;daily 2 3;daily 1 2;daily 0 1;");
        int[] due = {3, 7, 15, 15};
        for (int day = 0; day < 4; day++) {
            x.days(1);
            Due.is("who(1)", due[day], x.who(1));
        }
        // HANDS of THE FEAST are none of them
        x = Due.told("people 4;knows 0 1;hand 0 2;daily 0 1;");
        x.days(2);
        Due.is("who(1)", 3, x.who(1));
        // without DAILY HANDS
        Twins.leaves(Twins.text("knows 0 1;hand 0 2;"), "days of none", 2, y -> y.days(1));
    }

    // ---- who knows what

    private static void knows() {
        Hands x = Due.told("people 6;knows 0 0;knows 1 15;knows 2 15 0;knows 4 0 1 2 3 4 5 6 7 8;knows 5 15 14 13 12;");
        int[] due = {1, 1 << 15, 1 << 15 | 1, 0, 511, 15 << 12};
        for (int p = 0; p < 6; p++) {
            Due.is("knows(" + p + ")", due[p], x.knows(p));
        }
        Due.is("knows(-1)", BAD, x.knows(-1));
        Due.is("knows(6)", BAD, x.knows(6));
        for (int p : NO_ONE) {
            Twins.leaves(Twins.RICH, "knows(" + p + ")", BAD, y -> y.knows(p));
        }
    }

    private static void row() {
        Hands x = Due.told("people 2;knows 0 8 7 6 5 4 3 2 1 0;knows 1 15;");
        for (int i = 0; i < 9; i++) {
            Due.is("row(0, " + i + ")", 8 - i, x.row(0, i));
        }
        Due.is("row(0, 9)", NONE, x.row(0, 9));
        Due.is("row(1, 0)", 15, x.row(1, 0));
        Due.is("row(1, 1)", NONE, x.row(1, 1));
        x.learn(1, 0);
        Due.is("row(1, 1)", 0, x.row(1, 1));
        x.forget(1, 15);
        Due.is("row(1, 0)", 0, x.row(1, 0));
        Due.is("row(1, 1)", NONE, x.row(1, 1));
    }

    private static void rowRefused() {
        // in RICH ONE 0 has two THINGS
        for (int i : new int[] {2, 3, 8, 9, 10, 15, 16, 17, 32, 64, MAX}) {
            Twins.leaves(Twins.RICH, "row(0, " + i + ")", NONE, x -> x.row(0, i));
            Twins.leaves(Twins.NEW, "row(0, " + i + ")", NONE, x -> x.row(0, i));
        }
        Twins.leaves(Twins.NEW, "row(0, 0)", NONE, x -> x.row(0, 0));
        for (int i : new int[] {-1, -2, MIN}) {
            Twins.leaves(Twins.RICH, "row(0, " + i + ")", BAD, x -> x.row(0, i));
            Twins.leaves(Twins.NEW, "row(2, " + i + ")", BAD, x -> x.row(2, i));
        }
        for (int p : NO_ONE) {
            Twins.leaves(Twins.RICH, "row(" + p + ", 0)", BAD, x -> x.row(p, 0));
        }
        Twins.leaves(Twins.NEW, "row(3, 0)", BAD, x -> x.row(3, 0));
    }

    private static void whoKnows() {
        Hands x = Due.told("people 6;knows 0 0 15;knows 5 15;knows 2 15;");
        Due.is("who(0)", 1, x.who(0));
        Due.is("who(15)", 1 | 4 | 32, x.who(15));
        Due.is("who(14)", 0, x.who(14));
        for (int p = 0; p < 6; p++) {
            x.learn(p, 7);
            Due.is("who(7)", (2 << p) - 1, x.who(7));
        }
        for (int thing : NO_THING) {
            Twins.leaves(Twins.RICH, "who(" + thing + ")", BAD, y -> y.who(thing));
        }
    }

    private static void learn() {
        Hands x = Due.told("hold 3;knows 0 4 5;join 4 6 7;");
        Due.is("up to HOLD", 3, x.learn(0, 9));
        Due.row(x, 0, 4, 5, 9);
        Due.is("above HOLD, but for the JOIN", 3, x.learn(0, 6));
        Due.row(x, 0, 5, 9, 7);
        Due.is("above HOLD", 3, x.learn(0, 4));
        Due.row(x, 0, 9, 7, 4);
        // what falls out can be learnt anew
        Due.is("what fell out", 3, x.learn(0, 5));
        Due.row(x, 0, 7, 4, 5);
        Due.is("of none", 1, x.learn(1, 0));
        Due.is("of one", 2, x.learn(1, 15));
        Due.row(x, 1, 0, 15);
        // a JOIN that makes it fewer; one whose THING was there
        x = Due.told("knows 0 1 3;join 1 2 3;join 3 4 0;");
        Due.is("it stays", 1, x.learn(0, 2));
        Due.row(x, 0, 3);
        Due.is("it becomes", 1, x.learn(0, 4));
        Due.row(x, 0, 0);
        // JOINS of what was told are made, too
        x = Due.told("knows 0 1 2;join 1 2 3;");
        Due.is("told ahead", 2, x.learn(0, 15));
        Due.row(x, 0, 15, 3);
        // GLOVES do not hinder him
        x = Due.told("glove 2;");
        Due.is("in GLOVES", 1, x.learn(2, 3));
    }

    private static void learnRefused() {
        for (int p : NO_ONE) {
            Twins.leaves(Twins.RICH, "learn(" + p + ", 0)", BAD, x -> x.learn(p, 0));
        }
        for (int thing : NO_THING) {
            Twins.leaves(Twins.RICH, "learn(0, " + thing + ")", BAD, x -> x.learn(0, thing));
        }
        Twins.leaves(Twins.RICH, "learn(0, 7)", STATE, x -> x.learn(0, 7));
        Twins.leaves(Twins.RICH, "learn(0, 5)", STATE, x -> x.learn(0, 5));
        Twins.leaves(Twins.RICH, "learn(3, 8)", STATE, x -> x.learn(3, 8));
        // a refused one makes no JOINS
        Twins.leaves(Twins.text("knows 0 1 2;join 1 2 3;"), "learn(0, 2)", STATE, x -> x.learn(0, 2));
    }

    private static void forget() {
        Hands x = Due.told("knows 0 0 1 2 3 4 5 6 7 15;knows 1 0;");
        Due.is("the eldest", 8, x.forget(0, 0));
        Due.is("the last", 7, x.forget(0, 15));
        Due.is("one between", 6, x.forget(0, 4));
        Due.row(x, 0, 1, 2, 3, 5, 6, 7);
        Due.is("who(0)", 2, x.who(0));
        Due.is("the only one", 0, x.forget(1, 0));
        Due.row(x, 1);
        // it may come back, last
        Due.is("learn(0, 1)", STATE, x.learn(0, 1));
        Due.is("forget(0, 1)", 5, x.forget(0, 1));
        Due.is("learn(0, 1)", 6, x.learn(0, 1));
        Due.row(x, 0, 2, 3, 5, 6, 7, 1);
        // no JOINS are made by it
        x = Due.told("knows 0 1 2 9;join 1 2 3;glove 0;");
        Due.is("forget(0, 9)", 2, x.forget(0, 9));
        Due.row(x, 0, 1, 2);
    }

    private static void forgetRefused() {
        for (int p : NO_ONE) {
            Twins.leaves(Twins.RICH, "forget(" + p + ", 7)", BAD, x -> x.forget(p, 7));
        }
        for (int thing : NO_THING) {
            Twins.leaves(Twins.RICH, "forget(0, " + thing + ")", BAD, x -> x.forget(0, thing));
        }
        for (int thing : new int[] {0, 1, 2, 4, 6, 8, 15}) {
            Twins.leaves(Twins.RICH, "forget(0, " + thing + ")", NONE, x -> x.forget(0, thing));
        }
        Twins.leaves(Twins.NEW, "forget(0, 0)", NONE, x -> x.forget(0, 0));
        Twins.leaves(Twins.NEW, "forget(3, 0)", BAD, x -> x.forget(3, 0));
    }

    private static void glove() {
        Hands x = Due.told("people 6;glove 5;");
        Due.is("he did", 1, x.glove(5, true));
        Due.is("he did, off", 1, x.glove(5, false));
        Due.is("he did not, off", 0, x.glove(5, false));
        Due.is("he did not, on", 0, x.glove(5, true));
        Due.is("rule(5)", 1, x.rule(5));
        Due.is("glove(0, true)", 0, x.glove(0, true));
        Due.is("glove(5, true)", 1, x.glove(5, true));
        Due.is("rule(5)", 2, x.rule(5));
        for (int p : NO_ONE) {
            Twins.leaves(Twins.RICH, "glove(" + p + ", true)", BAD, y -> y.glove(p, true));
            Twins.leaves(Twins.RICH, "glove(" + p + ", false)", BAD, y -> y.glove(p, false));
        }
        Twins.leaves(Twins.RICH, "glove(3, true) of one who does", 1, y -> y.glove(3, true));
        Twins.leaves(Twins.RICH, "glove(0, false) of one who does not", 0, y -> y.glove(0, false));
        // numbers that wrap around to a ONE by their lowest bits
        Twins.leaves(Twins.RICH, "glove(32, true)", BAD, y -> y.glove(32, true));
        Twins.leaves(Twins.RICH, "glove(-32, true)", BAD, y -> y.glove(-32, true));
    }

    private static void shake() {
        Hands x = Due.told("people 6;hold 2;knows 4 9;knows 5 0 15;");
        Due.is("nothing", 0, x.shake(0, 1));
        Due.is("one", 1, x.shake(4, 0));
        Due.is("alike ROWS", 1, x.shake(0, 4));
        Due.is("two", 2, x.shake(5, 1));
        Due.is("above HOLD", 2, x.shake(4, 5));
        Due.row(x, 4, 0, 15);
        Due.row(x, 5, 0, 15);
        x = Due.told("people 2;knows 0 1;knows 1 2;join 1 2 3;");
        Due.is("by a JOIN fewer", 1, x.shake(1, 0));
    }

    private static void shakeRefused() {
        for (int p : NO_ONE) {
            Twins.leaves(Twins.RICH, "shake(0, " + p + ")", BAD, x -> x.shake(0, p));
            Twins.leaves(Twins.RICH, "shake(" + p + ", 0)", BAD, x -> x.shake(p, 0));
            Twins.leaves(Twins.RICH, "shake of " + p + " twice", BAD, x -> x.shake(p, p));
        }
        for (int p = 0; p < 4; p++) {
            int one = p;
            Twins.leaves(Twins.RICH, "shake of " + p + " twice", BAD, x -> x.shake(one, one));
        }
        for (int p = 0; p < 3; p++) {
            int one = p;
            Twins.leaves(Twins.RICH, "shake(" + p + ", 3)", NONE, x -> x.shake(one, 3));
            Twins.leaves(Twins.RICH, "shake(3, " + p + ")", NONE, x -> x.shake(3, one));
        }
    }

    // ---- the feast

    private static void firstHands() {
        String text = "people 4;knows 0 1;hand 0 1;hand 1 2;hand 2 3;";
        int[] who = {1, 3, 7, 15};
        for (int n = 0; n <= 3; n++) {
            Hands x = Due.told(text);
            Due.is("feast(" + n + ")", 0, x.feast(n));
            Due.is("who(1)", who[n], x.who(1));
        }
        // RICH has three of them
        Twins.leaves(Twins.RICH, "feast(0)", 0, x -> x.feast(0));
        Twins.leaves(Twins.NEW, "feast(0) of none", 0, x -> x.feast(0));
        for (int n : new int[] {-1, 4, 16, 17, MIN, MAX}) {
            Twins.leaves(Twins.RICH, "feast(" + n + ")", BAD, x -> x.feast(n));
        }
        for (int n : new int[] {-1, 1, 16, MAX}) {
            Twins.leaves(Twins.NEW, "feast(" + n + ") of none", BAD, x -> x.feast(n));
        }
        Hands x = Due.told("hand 0 1;".repeat(16));
        Due.is("feast(16)", 0, x.feast(16));
        Due.is("feast(17)", BAD, x.feast(17));
    }

    private static void knewOnce() {
        // 0 and 15 are lost; what is new (7) or known to another (9) is not told
        Hands x = Due.told("knows 0 0 9;knows 1 15;knows 2 9;join 0 15 7;hand 0 1;");
        Due.is("feast(1)", 1 << 15 | 1, x.feast(1));
        Due.is("feast(1) once more", 0, x.feast(1));
        // lost and back again in the same one: it is known then
        x = Due.told("knows 0 1;knows 1 2;knows 2 4;join 1 2 3;join 3 4 1;hand 0 1;hand 1 2;");
        Due.is("feast(2)", 4 + 16, x.feast(2));
        x = Due.told("people 2;hold 1;knows 0 1;knows 1 2;hand 0 1;");
        Due.is("HOLD 1", 2, x.feast(1));
    }

    private static void after() {
        String text = "people 4;knows 0 1;hand 0 1;hand 1 2;hand 2 3;";
        for (int n = 0; n <= 3; n++) {
            for (int p = 0; p < 4; p++) {
                int hands = n;
                int one = p;
                Twins.leaves(Twins.text(text), "after(" + n + ", " + p + ")", p <= n ? 2 : 0, x -> x.after(hands, one));
            }
        }
        for (int n : new int[] {-1, 4, 16, 17, MIN, MAX}) {
            Twins.leaves(Twins.RICH, "after(" + n + ", 0)", BAD, x -> x.after(n, 0));
        }
        for (int p : NO_ONE) {
            Twins.leaves(Twins.RICH, "after(0, " + p + ")", BAD, x -> x.after(0, p));
        }
        Twins.leaves(Twins.NEW, "after(0, 2)", 0, x -> x.after(0, 2));
        Twins.leaves(Twins.NEW, "after(1, 2)", BAD, x -> x.after(1, 2));
        Twins.leaves(Twins.NEW, "after(0, 3)", BAD, x -> x.after(0, 3));
        Hands x = Due.told("knows 0 15;" + "hand 1 2;".repeat(15) + "hand 0 2;");
        Due.is("after(15, 2)", 0, x.after(15, 2));
        Due.is("after(16, 2)", 1 << 15, x.after(16, 2));
        Due.is("after(17, 2)", BAD, x.after(17, 2));
    }

    private static void lost() {
        // by the first, by the last; the others always there
        String text = "people 4;hold 1;knows 0 1;knows 1 2;knows 2 3;knows 3 4;hand 0 1;hand 1 2;hand 2 3;";
        Twins.leaves(Twins.text(text), "lost(1)", 0, x -> x.lost(1));
        Twins.leaves(Twins.text(text), "lost(2)", NONE, x -> x.lost(2));
        Twins.leaves(Twins.text(text + "hand 0 1;"), "lost(2)", 3, x -> x.lost(2));
        Twins.leaves(Twins.text(text), "lost(3)", NONE, x -> x.lost(3));
        Twins.leaves(Twins.text(text), "lost(4)", NONE, x -> x.lost(4));
        Hands x = Due.told("hold 1;knows 0 1;knows 2 15;" + "hand 0 1;".repeat(15) + "hand 0 2;");
        Due.is("1 goes on to 1", NONE, x.lost(1));
        x = Due.told("hold 1;knows 0 1;knows 2 15;" + "hand 1 0;".repeat(14) + "hand 1 2;hand 0 2;");
        Due.is("by the 16th", 15, x.lost(1));
        // lost, back again, lost again: the first time
        x = Due.told("knows 0 1;knows 1 2;knows 2 4;join 1 2 3;join 3 4 1;hand 0 1;hand 1 2;");
        Due.is("for the first time", 0, x.lost(1));
    }

    private static void lostRefused() {
        for (int thing : NO_THING) {
            Twins.leaves(Twins.RICH, "lost(" + thing + ")", BAD, x -> x.lost(thing));
        }
        Twins.leaves(Twins.RICH, "lost(0)", STATE, x -> x.lost(0));
        Twins.leaves(Twins.RICH, "lost(15)", STATE, x -> x.lost(15));
        Twins.leaves(Twins.RICH, "lost(7)", NONE, x -> x.lost(7));
        Twins.leaves(Twins.NEW, "lost(0)", STATE, x -> x.lost(0));
        // it comes to be at THE FEAST only
        Twins.leaves(Twins.text("knows 0 1;knows 1 2;join 1 2 3;hand 0 1;"), "lost(3)", STATE, x -> x.lost(3));
        Twins.leaves(Twins.text("knows 0 1;"), "lost(1) without HANDS", NONE, x -> x.lost(1));
    }

    private static void told() {
        String text = "people 4;knows 0 1;hand 0 1;hand 1 2;hand 2 3;hand 0 3;";
        for (int p = 1; p < 4; p++) {
            int one = p;
            Twins.leaves(Twins.text(text), "told(" + p + ", 1)", p - 1, x -> x.told(one, 1));
        }
        Hands x = Due.told("knows 0 15;" + "hand 1 2;".repeat(15) + "hand 0 2;");
        Due.is("by the 16th", 15, x.told(2, 15));
        // he knows it for a while only
        x = Due.told("people 4;hold 1;knows 0 1;knows 2 2;hand 0 1;hand 1 2;");
        Due.is("for a while", 0, x.told(1, 1));
    }

    private static void toldRefused() {
        for (int p : NO_ONE) {
            Twins.leaves(Twins.RICH, "told(" + p + ", 1)", BAD, x -> x.told(p, 1));
        }
        for (int thing : NO_THING) {
            Twins.leaves(Twins.RICH, "told(0, " + thing + ")", BAD, x -> x.told(0, thing));
        }
        Twins.leaves(Twins.RICH, "told(0, 7)", STATE, x -> x.told(0, 7));
        Twins.leaves(Twins.RICH, "told(3, 1): in GLOVES", NONE, x -> x.told(3, 1));
        Twins.leaves(Twins.RICH, "told(0, 15): nobody knows it", NONE, x -> x.told(0, 15));
        Twins.leaves(Twins.text("knows 0 1;"), "told(1, 1) without HANDS", NONE, x -> x.told(1, 1));
        // what only others come to know
        Twins.leaves(Twins.text("knows 0 1;hand 0 1;"), "told(2, 1)", NONE, x -> x.told(2, 1));
    }

    // ---- the habit

    private static void lives() {
        String text = "people 4;hold 1;knows 0 1;knows 1 2;knows 2 3;knows 3 4;daily 0 1;daily 1 2;daily 2 3;";
        int[] due = {0, 1, 2, 3, NONE, 0};
        for (int thing = 0; thing <= 5; thing++) {
            int it = thing;
            Twins.leaves(Twins.text(text), "lives(" + thing + ")", due[thing], x -> x.lives(it));
        }
        Twins.leaves(Twins.NEW, "lives(15)", 0, x -> x.lives(15));
        // nobody knows it within a DAY, but by its end
        Twins.leaves(Twins.text("knows 0 1;knows 1 2;knows 2 4;join 1 2 3;join 3 4 1;daily 0 1;daily 1 2;"), "lives(1)",
                NONE, x -> x.lives(1));
        // nobody knows it now, though they come to
        Twins.leaves(Twins.text("knows 0 1;knows 1 2;join 1 2 3;daily 0 1;"), "lives(3)", 0, x -> x.lives(3));
    }

    private static void notWithin() {
        for (int thing : NO_THING) {
            Twins.leaves(Twins.RICH, "lives(" + thing + ")", BAD, x -> x.lives(thing));
        }
        // THING 11 of this habit is lost behind 208 DAYS
        Hands x = Due.told("people 6;hold 7;knows 0 4 7;knows 1 1 4;knows 2 3 1;knows 3 0 11;knows 4 9 6;knows 5 2 7;"
                + "daily 0 3;daily 4 2;daily 0 4;daily 5 0;daily 4 3;daily 3 1;");
        x.days(6);
        Due.is("202 DAYS left", NONE, x.lives(11));
        x.days(1);
        Due.is("201 DAYS left", NONE, x.lives(11));
        x.days(1);
        Due.is("200 DAYS left", 200, x.lives(11));
        x.days(1);
        Due.is("199 DAYS left", 199, x.lives(11));
        x.days(99);
        Due.is("100 DAYS left", 100, x.lives(11));
        Due.is("behind 99 of them", 1 << 11, x.days(99) & 1 << 11);
        Due.is("1 DAY left", 1, x.lives(11));
        Due.is("behind the last of them", 0, x.days(1) & 1 << 11);
        Due.is("no DAY left", 0, x.lives(11));
    }

    private static void comes() {
        // nothing changes: now, each DAY
        Twins.leaves(Twins.NEW, "comes(0)", 0, x -> x.comes(0));
        Twins.leaves(Twins.NEW, "comes(1)", 1, x -> x.comes(1));
        Twins.leaves(Twins.text("knows 0 1;daily 0 1;"), "comes(0)", 1, x -> x.comes(0));
        Twins.leaves(Twins.text("knows 0 1;daily 0 1;"), "comes(1)", 1, x -> x.comes(1));
        Twins.leaves(Twins.text("knows 0 1;daily 0 1;glove 1;"), "comes(0)", 0, x -> x.comes(0));
        // nobody comes to know more or less, but a ROW turns
        String turning = "people 3;hold 2;knows 0 1 2;knows 1 1 2;knows 2 2 1;daily 0 2;daily 1 2;";
        Twins.leaves(Twins.text(turning), "comes(0)", 1, x -> x.comes(0));
        Twins.leaves(Twins.text(turning), "comes(1)", 1, x -> x.comes(1));
        String text = "people 4;hold 3;knows 0 1 2 3;knows 1 4;knows 2 5 1;daily 0 1;daily 1 2;daily 2 3;daily 3 0;"
                + "join 4 5 6;hand 0 1;";
        Twins.leaves(Twins.text(text), "comes(0)", 3, x -> x.comes(0));
        Twins.leaves(Twins.text(text), "comes(1)", 4, x -> x.comes(1));
        int[] due = {3, 2, 1, 0, 0};
        Hands x = Due.told(text);
        for (int day = 0; day < due.length; day++) {
            Due.is("comes(0)", due[day], x.comes(0));
            Due.is("comes(1)", 4, x.comes(1));
            x.days(1);
        }
    }

    private static void noneWithin() {
        for (int what : new int[] {-1, 2, MIN, MAX}) {
            Twins.leaves(Twins.RICH, "comes(" + what + ")", BAD, x -> x.comes(what));
            Twins.leaves(Twins.NEW, "comes(" + what + ")", BAD, x -> x.comes(what));
        }
        // DAY 9 comes back behind 192, which is DAY 201
        Hands x = Due.told("people 6;hold 5;knows 0 3;knows 1 12;knows 2 3 0;knows 3 10 6;knows 4 11 14;knows 5 10;"
                + "join 11 10 8;daily 3 0;daily 3 2;daily 1 2;daily 1 5;daily 2 1;daily 1 4;");
        Due.is("comes(0) by 201 DAYS", NONE, x.comes(0));
        Due.is("comes(1) by 201 DAYS", NONE, x.comes(1));
        for (int ahead = 8; ahead >= 0; ahead--) {
            x.days(1);
            Due.is("comes(0) by " + (192 + ahead), ahead, x.comes(0));
            Due.is("comes(1) by " + (192 + ahead), 192, x.comes(1));
        }
        x.days(1);
        Due.is("comes(0) within it", 0, x.comes(0));
        Due.is("comes(1) within it", 192, x.comes(1));
    }

    private static void days() {
        for (int n : new int[] {0, -1, 100, 101, MIN, MAX}) {
            Twins.leaves(Twins.RICH, "days(" + n + ")", BAD, x -> x.days(n));
            Twins.leaves(Twins.NEW, "days(" + n + ")", BAD, x -> x.days(n));
        }
        Twins.leaves(Twins.NEW, "days(1) of none", 0, x -> x.days(1));
        Twins.leaves(Twins.NEW, "days(99) of none", 0, x -> x.days(99));
        // 1, 2, 98 and 99 DAYS, held against as many single ones
        String text = "people 6;hold 7;knows 0 4 7;knows 1 1 4;knows 2 3 1;knows 3 0 11;knows 4 9 6;knows 5 2 7;"
                + "daily 0 3;daily 4 2;daily 0 4;daily 5 0;daily 4 3;daily 3 1;";
        for (int n : new int[] {1, 2, 98, 99}) {
            Hands x = Due.told(text);
            Hands single = Due.told(text);
            int known = 0;
            for (int day = 0; day < n; day++) {
                known = single.days(1);
            }
            Due.is("days(" + n + ")", known, x.days(n));
            for (int p = 0; p < 6; p++) {
                for (int i = 0; i < 9; i++) {
                    Due.is("row(" + p + ", " + i + ")", single.row(p, i), x.row(p, i));
                }
            }
        }
        Hands x = Due.told("people 2;hold 1;knows 0 0;knows 1 15;daily 0 1;");
        Due.is("THINGS then", 1 << 15, x.days(1));
    }
}
