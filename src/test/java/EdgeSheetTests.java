/** Sentences that name a boundary: SHEETS, promises 32 to 38. */
final class EdgeSheetTests {
    private static final int BAD = ShakeHands.BAD;
    private static final int STATE = ShakeHands.STATE;
    private static final int NONE = ShakeHands.NONE;
    private static final int MIN = Integer.MIN_VALUE;
    private static final int MAX = Integer.MAX_VALUE;
    private static final int NULL = -11;
    private static final int INDEX = -12;
    private static final int SIZE = -14;
    private static final int[] NO_SHEET = {-1, 4, 5, MIN, MAX};
    private static final int[] NO_LANE = {-1, 3, 4, MIN, MAX};

    private EdgeSheetTests() {
    }

    static void run() {
        says(0, "SHEETS 0 to 3 are rows of BYTES (lane 0), SHORTS (1), INTS (2), all with a sign, with 0 to 40 CELLS, or "
                + "nothing (at first).", EdgeSheetTests::sheets);
        says(0, "A FAULT is what the machine finds: 1 NULL (nothing), 2 INDEX, 3 CAST (another lane), 4 SIZE (below 0).",
                EdgeSheetTests::machine);
        images();
        sheetCalls();
        says(37, "The FAULT of the latest read() that answered 0 or more; 0 (one that is refused leaves it).",
                EdgeSheetTests::torn);
        says(38, "How many: 0 THINGS that somebody knows, 1 that all know,", EdgeSheetTests::countThings);
        says(38, "2 SEEN, 3 IMAGES, 4 bytes on THE TAPE, 5 CELLS of SHEET 0 (NONE: nothing). BAD.", EdgeSheetTests::count);
    }

    private static void images() {
        says(32, "IMAGE k (0, 1) is all ROWS, GLOVES, what was SEEN: whether there was one (1, 0). BAD.",
                EdgeSheetTests::keep);
        says(33, "All is as IMAGE k: THINGS that somebody knows (bits).", EdgeSheetTests::back);
        says(33, "BAD; STATE: there is none.", EdgeSheetTests::backRefused);
    }

    private static void sheetCalls() {
        says(34, "A SHEET is a new row of CELLS 0: 1.", EdgeSheetTests::sheet);
        says(34, "BAD: also n above 40; -14 (SIZE): n below 0.", EdgeSheetTests::sheetRefused);
        says(35, "CELL i of a SHEET becomes v (its lowest bits): 1.", EdgeSheetTests::lay);
        says(35, "BAD: k; -10 less the FAULT: NULL, INDEX.", EdgeSheetTests::layRefused);
        says(36, "n (0 to 20) HANDS (two PEOPLE) are read of a SHEET taken as of a lane, two CELLS each from CELL f on, and "
                + "shaken one behind another: how many came.", EdgeSheetTests::read);
        says(36, "What the machine refuses: those that were whole ahead are shaken (its FAULT is asked by torn();",
                EdgeSheetTests::readTorn);
        says(36, "of n 0: 0, no FAULT, whatever the SHEET is).", EdgeSheetTests::readNone);
        says(36, "BAD: k, lane, n;", EdgeSheetTests::readBad);
        says(36, "-20 less i (from 0 on): HAND i, whole, is BAD: then none is shaken.", EdgeSheetTests::readBadHand);
    }

    private static void says(int promise, String words, Runnable test) {
        Sentence.says(promise, words, test);
    }

    // ---- terms

    private static void sheets() {
        for (int k = 0; k < 4; k++) {
            Hands x = Due.told("knows 0 1;");
            Due.is("nothing at first", NULL, x.lay(k, 0, 0));
            for (int lane = 0; lane < 3; lane++) {
                Due.is("no CELLS", 1, x.sheet(k, lane, 0));
                Due.is("CELL 0 of none", INDEX, x.lay(k, 0, 0));
                Due.is("40 CELLS", 1, x.sheet(k, lane, 40));
                Due.is("CELL 39", 1, x.lay(k, 39, 1));
                Due.is("CELL 40", INDEX, x.lay(k, 40, 1));
                Due.is("of the lane", 1, x.read(k, lane, 38, 1));
            }
            for (int other = 0; other < 4; other++) {
                if (other != k) {
                    Due.is("the others are nothing", NULL, x.lay(other, 0, 0));
                }
            }
        }
    }

    private static void machine() {
        Hands x = Due.told("knows 0 1;");
        Due.is("NULL", NULL, x.lay(0, 0, 0));
        Due.is("SIZE", SIZE, x.sheet(0, 0, -1));
        Due.is("NULL still", NULL, x.lay(0, 0, 0));
        torn(x, 0, 0, 0, 1);
        torn(x, 0, 2, 99, 1);
        x.sheet(0, 1, 4);
        Due.is("INDEX", INDEX, x.lay(0, 4, 0));
        torn(x, 0, 1, 4, 2);
        // another lane: ahead of INDEX
        torn(x, 0, 0, 0, 3);
        torn(x, 0, 2, 0, 3);
        torn(x, 0, 2, -1, 3);
        torn(x, 0, 0, 40, 3);
        x.sheet(0, 1, 0);
        torn(x, 0, 1, 0, 2);
        torn(x, 0, 0, 0, 3);
    }

    /** That a HAND of a SHEET is refused by the machine with a FAULT. */
    private static void torn(Hands x, int k, int lane, int f, int fault) {
        Due.is("read as of lane " + lane + " from " + f, 0, x.read(k, lane, f, 1));
        Due.is("torn()", fault, x.torn());
    }

    // ---- images

    private static void keep() {
        for (int k = 0; k < 2; k++) {
            Hands x = new Hands();
            Due.is("keep(" + k + ")", 0, x.keep(k));
            Due.is("keep(" + k + ") once more", 1, x.keep(k));
            Due.is("keep of the other", 0, x.keep(1 - k));
            Due.is("count(3)", 2, x.count(3));
        }
        for (int k : new int[] {-1, 2, 3, 32, MIN, MAX}) {
            Twins.leaves(Twins.RICH, "keep(" + k + ")", BAD, x -> x.keep(k));
            Twins.leaves(Twins.NEW, "keep(" + k + ")", BAD, x -> x.keep(k));
        }
        // the latest counts, and a text takes it away
        Hands x = Due.told("knows 0 1;");
        x.keep(0);
        x.learn(1, 2);
        Due.is("keep(0)", 1, x.keep(0));
        x.forget(1, 2);
        x.forget(0, 1);
        Due.is("back(0)", 6, x.back(0));
        Due.row(x, 1, 2);
        Due.tell(x, "hold 3;");
        Due.is("keep(0) behind a text", 0, x.keep(0));
    }

    private static void back() {
        Hands x = Due.told("people 6;knows 5 0 15;glove 4;");
        x.saw(5, 1 << 15 | 1);
        x.keep(1);
        x.forget(5, 0);
        x.learn(0, 7);
        x.glove(4, false);
        x.glove(0, true);
        x.saw(1, 0);
        x.saw(5, 2);
        Due.is("back(1)", 1 << 15 | 1, x.back(1));
        Due.row(x, 5, 0, 15);
        Due.row(x, 0);
        Due.is("count(2)", 1, x.count(2));
        Due.is("fits(0, 0)", 1, x.fits(0, 0));
        Due.is("rule(5)", 1, x.rule(5));
        Due.is("glove(4, true)", 1, x.glove(4, true));
        // an IMAGE of nothing
        x = new Hands();
        x.keep(0);
        x.learn(0, 1);
        Due.is("back(0)", 0, x.back(0));
        Due.is("back(0) once more", 0, x.back(0));
        // SHEETS, THE TAPE, what torn() and fault() tell are no part of it
        x = new Hands();
        x.keep(0);
        x.sheet(0, 0, 7);
        x.read(0, 1, 0, 1);
        Due.refuses(x, "hold 0", 3, 5);
        x.feed(0);
        x.back(0);
        Due.is("count(5)", 7, x.count(5));
        Due.is("torn()", 3, x.torn());
        Due.is("fault()", 3, x.fault());
        Due.is("count(4)", 8, x.count(4));
    }

    private static void backRefused() {
        for (int k : new int[] {-1, 2, 3, 32, MIN, MAX}) {
            Twins.leaves(Twins.RICH, "back(" + k + ")", BAD, x -> x.back(k));
            Twins.leaves(Twins.NEW, "back(" + k + ")", BAD, x -> x.back(k));
        }
        for (int k = 0; k < 2; k++) {
            int it = k;
            Twins.leaves(Twins.NEW, "back(" + k + ")", STATE, x -> x.back(it));
            Twins.leaves(EdgeSheetTests::noImage, "back(" + k + ") behind a text", STATE, x -> x.back(it));
            Twins.leaves(x -> x.keep(1 - it), "back(" + k + ") with the other", STATE, x -> x.back(it));
        }
    }

    private static void noImage(Hands x) {
        x.keep(0);
        x.keep(1);
        Due.tell(x, "people 4;knows 3 7;glove 1;");
        x.saw(3, 128);
    }

    // ---- sheets

    private static void sheet() {
        for (int n : new int[] {0, 1, 39, 40}) {
            Hands x = new Hands();
            Due.is("sheet(0, 2, " + n + ")", 1, x.sheet(0, 2, n));
            Due.is("count(5)", n, x.count(5));
            Due.is("behind the last CELL", INDEX, x.lay(0, n, 0));
            Due.is("the last CELL", n == 0 ? INDEX : 1, x.lay(0, n - 1, 0));
        }
        // a new row: CELLS 0, of its own lane, as many as told
        Hands x = new Hands();
        Twins.lay(x, 3, 0, 1, 2, 1, 2);
        Due.is("read", 2, x.read(3, 0, 0, 2));
        Due.is("sheet", 1, x.sheet(3, 0, 4));
        for (int f = 0; f < 3; f++) {
            Due.is("CELLS 0", -20, x.read(3, 0, f, 1));
        }
        x.sheet(3, 1, 2);
        Due.is("of the old lane", 0, x.read(3, 0, 0, 1));
        Due.is("torn()", 3, x.torn());
        Due.is("a CELL of the old row", INDEX, x.lay(3, 2, 0));
        x.sheet(3, 1, 40);
        Due.is("a CELL of the new row", 1, x.lay(3, 39, 1));
        Due.is("CELL 38 is 0", 1, x.read(3, 1, 38, 1));
    }

    private static void sheetRefused() {
        for (int k : NO_SHEET) {
            Twins.leaves(Twins.RICH, "sheet(" + k + ", 0, 1)", BAD, x -> x.sheet(k, 0, 1));
        }
        for (int lane : NO_LANE) {
            Twins.leaves(Twins.RICH, "sheet(0, " + lane + ", 1)", BAD, x -> x.sheet(0, lane, 1));
        }
        for (int k = 0; k < 4; k++) {
            int it = k;
            for (int n : new int[] {41, 42, 320, MAX}) {
                Twins.leaves(Twins.RICH, "sheet(" + k + ", 0, " + n + ")", BAD, x -> x.sheet(it, 0, n));
            }
            for (int n : new int[] {-1, -2, -41, MIN}) {
                Twins.leaves(Twins.RICH, "sheet(" + k + ", 2, " + n + ")", SIZE, x -> x.sheet(it, 2, n));
            }
        }
        Due.is("sheet(3, 2, 40)", 1, new Hands().sheet(3, 2, 40));
        Due.is("sheet(0, 0, 0)", 1, new Hands().sheet(0, 0, 0));
    }

    private static void lay() {
        // v, and what a CELL of each lane holds then
        int[][] due = {{1, 1, 1, 1}, {127, 127, 127, 127}, {128, -128, 128, 128}, {255, -1, 255, 255}, {256, 0, 256, 256},
            {257, 1, 257, 257}, {258, 2, 258, 258}, {-255, 1, -255, -255}, {-256, 0, -256, -256}, {-1, -1, -1, -1},
            {32767, -1, 32767, 32767}, {32768, 0, -32768, 32768}, {65535, -1, -1, 65535}, {65536, 0, 0, 65536},
            {65537, 1, 1, 65537}, {-65535, 1, 1, -65535}, {16777218, 2, 2, 16777218}, {MIN, 0, 0, MIN}, {MAX, -1, -1, MAX}};
        for (int[] d : due) {
            for (int lane = 0; lane < 3; lane++) {
                cellHolds(lane, d[0], d[1 + lane]);
            }
        }
        // each CELL by itself
        Hands x = Due.told("people 6;");
        x.sheet(0, 0, 40);
        for (int i = 0; i < 40; i++) {
            Due.is("lay(0, " + i + ")", 1, x.lay(0, i, i % 6));
        }
        for (int f = 0; f < 39; f++) {
            x.learn(f % 6, 4);
            Due.is("read from " + f, 1, x.read(0, 0, f, 1));
            Due.is("who(4)", 1 << f % 6 | 1 << (f + 1) % 6, x.who(4));
            x.forget(f % 6, 4);
            x.forget((f + 1) % 6, 4);
        }
    }

    /** That v becomes `held` in a CELL: a ONE (0 to 2) gives a HAND to another, another number is BAD. */
    private static void cellHolds(int lane, int v, int held) {
        boolean isOne = held >= 0 && held <= 2;
        int other = held == 0 ? 1 : 0;
        Hands x = Due.told("knows 0 4;knows 1 5;knows 2 6;");
        Twins.lay(x, 1, lane, v, other);
        Due.is("lay of " + v + ", lane " + lane, isOne ? 1 : -20, x.read(1, lane, 0, 1));
        int[] alone = {1, 2, 4};
        for (int p = 0; p < 3; p++) {
            boolean came = isOne && (p == held || p == other);
            Due.is("who(" + (4 + p) + ")", came ? 1 << held | 1 << other : alone[p], x.who(4 + p));
        }
    }

    private static void layRefused() {
        for (int k : NO_SHEET) {
            Twins.leaves(Twins.RICH, "lay(" + k + ", 0, 1)", BAD, x -> x.lay(k, 0, 1));
        }
        // SHEET 3 is nothing: whatever i is
        for (int i : new int[] {0, -1, 40, MIN, MAX}) {
            Twins.leaves(Twins.RICH, "lay(3, " + i + ", 1)", NULL, x -> x.lay(3, i, 1));
            Twins.leaves(Twins.NEW, "lay(0, " + i + ", 1)", NULL, x -> x.lay(0, i, 1));
        }
        // five, four, no CELLS
        int[] size = {5, 4, 0};
        for (int k = 0; k < 3; k++) {
            int it = k;
            for (int i : new int[] {-1, size[k], size[k] + 1, 39, 40, 41, MIN, MAX}) {
                Twins.leaves(Twins.RICH, "lay(" + k + ", " + i + ", 1)", INDEX, x -> x.lay(it, i, 1));
            }
        }
    }

    // ---- read

    private static void read() {
        // 0 to 20 of them, one behind another: 0-1, 1-2, 0-1, ..
        for (int n : new int[] {0, 1, 2, 19, 20}) {
            Hands x = Due.told("knows 0 1;");
            x.sheet(2, 1, 40);
            for (int i = 0; i < 40; i++) {
                x.lay(2, i, i % 4 < 2 ? i % 4 : i % 4 - 1);
            }
            Due.is("read of " + n, n, x.read(2, 1, 0, n));
            Due.is("torn()", 0, x.torn());
            Due.is("who(1)", n == 0 ? 1 : n == 1 ? 3 : 7, x.who(1));
        }
        // from each CELL on: the last two that are two
        Hands x = Due.told("people 6;");
        Twins.lay(x, 0, 2, 4, 5, 0, 3, 1);
        for (int f = 0; f <= 3; f++) {
            Due.is("read from " + f, 1, x.read(0, 2, f, 1));
            Due.is("torn()", 0, x.torn());
        }
        Due.is("read from 4", 0, x.read(0, 2, 4, 1));
        Due.is("torn()", 2, x.torn());
        Due.is("read of two from 0", 2, x.read(0, 2, 0, 2));
        Due.is("read of two from 1", 2, x.read(0, 2, 1, 2));
        Due.is("torn()", 0, x.torn());
        // a HAND with GLOVES came, though nothing comes of it
        x = Due.told("knows 0 1;glove 1;");
        Twins.lay(x, 0, 0, 0, 1, 2, 0, 1, 0);
        Due.is("with GLOVES", 3, x.read(0, 0, 0, 3));
        Due.is("who(1)", 5, x.who(1));
        // the lesser number leads, HOLD is kept, JOINS are made
        x = Due.told("hold 1;knows 0 1;knows 1 2;");
        Twins.lay(x, 0, 0, 1, 0);
        Due.is("read", 1, x.read(0, 0, 0, 1));
        Due.row(x, 0, 2);
    }

    private static void readTorn() {
        // two whole ones, then half a one or none
        for (int cells = 4; cells <= 5; cells++) {
            for (int n = 2; n <= 20; n += 1 + n / 4 * 4) {
                Hands x = Due.told("people 4;knows 0 1;");
                int[] all = {0, 1, 1, 2, 2};
                Twins.lay(x, 0, 1, java.util.Arrays.copyOf(all, cells));
                Due.is("read of " + n, 2, x.read(0, 1, 0, n));
                Due.is("torn()", n == 2 ? 0 : 2, x.torn());
                Due.is("who(1)", 7, x.who(1));
            }
        }
        // a half HAND is not looked at
        Hands x = Due.told("knows 0 1;");
        Twins.lay(x, 0, 0, 0, 1, 99);
        Due.is("half a HAND of nobody", 1, x.read(0, 0, 0, 2));
        Due.is("torn()", 2, x.torn());
        Due.is("who(1)", 3, x.who(1));
        // outside of it: nothing is shaken
        for (int f : new int[] {-1, -2, -3, 3, 4, 39, 40, 41, MIN, MIN + 1, MAX, MAX - 1}) {
            x = Due.told("knows 0 1;");
            Twins.lay(x, 0, 0, 0, 1, 2);
            Due.is("read from " + f, 0, x.read(0, 0, f, 20));
            Due.is("torn()", 2, x.torn());
            Due.is("who(1)", 1, x.who(1));
        }
        // RICH's SHEETS of nothing, of no CELLS, of another lane: only torn() is changed (2 ahead of it)
        Twins.leaves(Twins.RICH, "no CELLS", 0, y -> y.read(2, 2, 0, 1));
        Twins.leaves(Twins.RICH, "outside", 0, y -> y.read(0, 0, 5, 1));
        tornAnew(3, 0, 0, 1);
        tornAnew(3, 2, MIN, 1);
        tornAnew(0, 1, 0, 3);
        tornAnew(2, 0, 0, 3);
    }

    /** That a read() of RICH leaves all but what torn() tells: another one makes that the same again. */
    private static void tornAnew(int k, int lane, int f, int fault) {
        Twins.leaves(Twins.RICH, "read of SHEET " + k, fault, x -> {
            Due.is("read", 0, x.read(k, lane, f, 20));
            int torn = x.torn();
            Due.is("read outside", 0, x.read(0, 0, 5, 1));
            return torn;
        });
    }

    private static void readNone() {
        int[] at = {0, -1, 5, 40, MIN, MAX};
        for (int k = 0; k < 4; k++) {
            for (int lane = 0; lane < 3; lane++) {
                for (int f : at) {
                    Hands x = new Hands();
                    Twins.lay(x, 0, 0, 0, 0, 99);
                    x.sheet(1, 1, 0);
                    x.sheet(2, 2, 40);
                    x.read(3, 0, 0, 1);
                    Due.is("torn() ahead", 1, x.torn());
                    Due.is("read(" + k + ", " + lane + ", " + f + ", 0)", 0, x.read(k, lane, f, 0));
                    Due.is("torn()", 0, x.torn());
                }
            }
        }
        // one more is looked at
        Hands x = new Hands();
        Due.is("read of one", 0, x.read(0, 0, 0, 1));
        Due.is("torn()", 1, x.torn());
    }

    private static void readBad() {
        for (int k : NO_SHEET) {
            Twins.leaves(Twins.RICH, "read(" + k + ", 0, 0, 1)", BAD, x -> x.read(k, 0, 0, 1));
            Twins.leaves(Twins.RICH, "read(" + k + ", 0, 0, 0)", BAD, x -> x.read(k, 0, 0, 0));
        }
        for (int lane : NO_LANE) {
            Twins.leaves(Twins.RICH, "read(0, " + lane + ", 0, 1)", BAD, x -> x.read(0, lane, 0, 1));
            Twins.leaves(Twins.RICH, "read(0, " + lane + ", 0, 0)", BAD, x -> x.read(0, lane, 0, 0));
        }
        for (int n : new int[] {-1, 21, 22, MIN, MAX}) {
            Twins.leaves(Twins.RICH, "read(0, 0, 0, " + n + ")", BAD, x -> x.read(0, 0, 0, n));
            Twins.leaves(Twins.RICH, "read(3, 0, 0, " + n + ")", BAD, x -> x.read(3, 0, 0, n));
        }
    }

    private static void readBadHand() {
        // HAND i of 20 is BAD: by its first ONE, by its second, alike
        int[][] bad = {{3, 0}, {0, 3}, {-1, 0}, {0, -1}, {1, 1}, {MIN, 0}, {0, MAX}};
        for (int i = 0; i < 20; i++) {
            for (int[] two : bad) {
                int hand = i;
                Twins.leaves(x -> layBad(x, hand, two), "HAND " + i + " is BAD", -20 - i, x -> x.read(1, 2, 0, 20));
                Twins.leaves(x -> layBad(x, hand, two), "HAND 0 is BAD", -20, x -> x.read(1, 2, 2 * hand, 1));
            }
        }
        // the first of several; torn behind it does not matter; those ahead of it alone are shaken
        Hands x = Due.told("knows 0 1;");
        Twins.lay(x, 0, 0, 0, 1, 3, 0, 0, 3, 1);
        Due.is("the first of two", -21, x.read(0, 0, 0, 3));
        Due.is("and torn", -21, x.read(0, 0, 0, 20));
        Due.is("who(1)", 1, x.who(1));
        Due.is("ahead of it", 1, x.read(0, 0, 0, 1));
        Due.is("who(1)", 3, x.who(1));
        Due.is("torn ahead of it", 0, x.read(0, 0, -1, 20));
        Due.is("torn()", 2, x.torn());
        // PEOPLE: 2 to 6 of them
        for (int people = 2; people <= 6; people++) {
            x = Due.told("people " + people + ";");
            Twins.lay(x, 0, 0, 0, people - 1, people, 0);
            Due.is("the last ONE", 1, x.read(0, 0, 0, 1));
            Due.is("one more", -20, x.read(0, 0, 1, 1));
            Due.is("one more", -20, x.read(0, 0, 2, 1));
        }
    }

    /** Three PEOPLE; SHEET 1 of twenty HANDS, of which one is BAD; torn() tells 1. */
    private static void layBad(Hands x, int hand, int[] two) {
        Due.tell(x, "knows 0 1;");
        x.sheet(1, 2, 40);
        for (int i = 0; i < 20; i++) {
            x.lay(1, 2 * i, i == hand ? two[0] : 0);
            x.lay(1, 2 * i + 1, i == hand ? two[1] : 1);
        }
        x.read(0, 0, 0, 1);
    }

    private static void torn() {
        Hands x = Due.told("knows 0 1;");
        Due.is("torn() at first", 0, x.torn());
        Twins.lay(x, 0, 0, 0, 1, 9, 9);
        Due.is("one that is whole", 1, x.read(0, 0, 0, 1));
        Due.is("torn()", 0, x.torn());
        int[][] reads = {{1, 0, 0, 1, 1}, {0, 0, 4, 1, 2}, {0, 1, 0, 1, 3}, {0, 0, 3, 2, 2}, {1, 2, 0, 20, 1}};
        for (int[] r : reads) {
            Due.is("read", 0, x.read(r[0], r[1], r[2], r[3]));
            Due.is("torn()", r[4], x.torn());
            Due.is("torn() once more", r[4], x.torn());
            Due.is("one that is BAD", BAD, x.read(0, 0, 0, 21));
            Due.is("torn()", r[4], x.torn());
            Due.is("one whose HAND is BAD", -21, x.read(0, 0, 0, 2));
            Due.is("torn()", r[4], x.torn());
            Due.is("lay that the machine refuses", INDEX, x.lay(0, 4, 0));
            Due.is("sheet that it refuses", SIZE, x.sheet(0, 0, -1));
            Due.is("torn()", r[4], x.torn());
        }
        Due.is("one that is whole", 1, x.read(0, 0, 0, 1));
        Due.is("torn()", 0, x.torn());
        Due.is("half behind it", 0, x.read(0, 0, 3, 1));
        Due.is("torn()", 2, x.torn());
        Due.is("n 0", 0, x.read(0, 0, 0, 0));
        Due.is("torn()", 0, x.torn());
    }

    // ---- count

    private static void countThings() {
        Hands x = Due.told("people 2;");
        Due.is("count(0) of none", 0, x.count(0));
        Due.is("count(1) of none", 0, x.count(1));
        for (int thing = 0; thing < 9; thing++) {
            x.learn(0, thing);
            Due.is("count(0)", thing + 1, x.count(0));
            Due.is("count(1)", 0, x.count(1));
        }
        for (int thing = 15; thing > 8; thing--) {
            x.learn(1, thing);
            Due.is("count(0)", 25 - thing, x.count(0));
        }
        Due.is("count(0) of all", 16, x.count(0));
        Due.is("count(1)", 0, x.count(1));
        x.learn(1, 0);
        Due.is("count(1)", 1, x.count(1));
        x.learn(1, 8);
        Due.is("count(1)", 2, x.count(1));
        Due.is("count(0)", 16, x.count(0));
        x = Due.told("people 2;knows 0 0 1 2 3 4 5 6 7 8;knows 1 8 7 6 5 4 3 2 1 0;");
        Due.is("count(1) of nine", 9, x.count(1));
        for (int people = 2; people <= 6; people++) {
            x = Due.told("people " + people + ";");
            for (int p = 0; p < people; p++) {
                Due.is("count(1) but for some", 0, x.count(1));
                x.learn(p, 15);
            }
            Due.is("count(1) of " + people, 1, x.count(1));
        }
    }

    private static void count() {
        int[] due = {5, 0, 4, 2, 16, 5};
        for (int what = 0; what <= 5; what++) {
            int it = what;
            Twins.leaves(Twins.RICH, "count(" + what + ")", due[what], x -> x.count(it));
            Twins.leaves(Twins.NEW, "count(" + what + ")", what == 5 ? NONE : 0, x -> x.count(it));
        }
        for (int what : new int[] {-1, 6, MIN, MAX}) {
            Twins.leaves(Twins.RICH, "count(" + what + ")", BAD, x -> x.count(what));
        }
        Hands x = Due.told("people 6;");
        for (int p = 0; p < 6; p++) {
            x.saw(p, 0);
            Due.is("count(2)", p + 1, x.count(2));
        }
        x.keep(1);
        Due.is("count(3)", 1, x.count(3));
        x.keep(1);
        Due.is("count(3)", 1, x.count(3));
        x.keep(0);
        Due.is("count(3)", 2, x.count(3));
        for (int i = 1; i <= 41; i++) {
            x.feed(0);
            Due.is("count(4)", Math.min(8 * i, 320), x.count(4));
        }
        for (int k = 1; k < 4; k++) {
            x.sheet(k, 0, 9);
            Due.is("count(5) of the others", NONE, x.count(5));
        }
        for (int n : new int[] {0, 1, 40}) {
            x.sheet(0, 2, n);
            Due.is("count(5)", n, x.count(5));
        }
    }
}
