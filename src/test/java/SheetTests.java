/** Promises 32 to 38: images, sheets. */
final class SheetTests {
    private static final int BAD = ShakeHands.BAD;
    private static final int STATE = ShakeHands.STATE;
    private static final int NONE = ShakeHands.NONE;

    private SheetTests() {
    }

    static void run() {
        keepAndBack();
        sheet();
        lay();
        lanes();
        read();
        readTorn();
        readBad();
        readGloves();
        count();
    }

    private static void keepAndBack() {
        Hands x = Due.told("people 4;knows 0 5 1;knows 3 2;glove 2;daily 0 1;");
        Due.is("keep(2)", BAD, x.keep(2));
        Due.is("keep(-1)", BAD, x.keep(-1));
        Due.is("back(2)", BAD, x.back(2));
        Due.is("back(-1)", BAD, x.back(-1));
        Due.is("back(1)", STATE, x.back(1));
        x.saw(3, 7);
        Due.is("keep(1)", 0, x.keep(1));
        Due.is("count(3)", 1, x.count(3));
        Due.is("back(0)", STATE, x.back(0));
        x.days(1);
        x.glove(2, false);
        x.glove(1, true);
        x.forget(3, 2);
        x.blind();
        x.saw(0, 1);
        x.saw(1, 1);
        Due.is("keep(0)", 0, x.keep(0));
        Due.is("keep(0)", 1, x.keep(0));
        Due.is("count(3)", 2, x.count(3));
        Due.is("back(1)", 32 + 2 + 4, x.back(1));
        Due.row(x, 0, 5, 1);
        Due.row(x, 1);
        Due.row(x, 3, 2);
        Due.is("count(2)", 1, x.count(2));
        Due.is("fits by what was SEEN", 0, x.fits(0, 0));
        x.saw(3, 4);
        Due.is("fits by what is SEEN", 1, x.fits(0, 0));
        Due.is("glove(1)", 0, x.glove(1, false));
        Due.is("glove(2)", 1, x.glove(2, true));
        // an IMAGE stays as it was kept
        x.learn(0, 9);
        Due.is("back(1)", 32 + 2 + 4, x.back(1));
        Due.row(x, 0, 5, 1);
        Due.is("what was SEEN", 0, x.fits(0, 0));
        Due.is("back(0)", 32 + 2, x.back(0));
        Due.is("count(2)", 2, x.count(2));
        Due.is("glove(1)", 1, x.glove(1, true));
        Due.is("rule(5)", 1, x.rule(5));
        Due.row(x, 3);
    }

    private static void sheet() {
        Hands x = new Hands();
        Due.is("sheet(-1, 0, 1)", BAD, x.sheet(-1, 0, 1));
        Due.is("sheet(4, 0, 1)", BAD, x.sheet(4, 0, 1));
        Due.is("sheet(0, -1, 1)", BAD, x.sheet(0, -1, 1));
        Due.is("sheet(0, 3, 1)", BAD, x.sheet(0, 3, 1));
        Due.is("sheet(0, 0, 41)", BAD, x.sheet(0, 0, 41));
        Due.is("sheet(0, 0, max)", BAD, x.sheet(0, 0, Integer.MAX_VALUE));
        Due.is("sheet(4, 0, -1)", BAD, x.sheet(4, 0, -1));
        Due.is("sheet(0, 3, -1)", BAD, x.sheet(0, 3, -1));
        Due.is("sheet(0, 0, -1)", -14, x.sheet(0, 0, -1));
        Due.is("sheet(0, 0, min)", -14, x.sheet(0, 0, Integer.MIN_VALUE));
        Due.is("count(5)", NONE, x.count(5));
        Due.is("sheet(0, 2, 0)", 1, x.sheet(0, 2, 0));
        Due.is("count(5)", 0, x.count(5));
        Due.is("sheet(0, 1, 40)", 1, x.sheet(0, 1, 40));
        Due.is("count(5)", 40, x.count(5));
        Due.is("sheet(3, 0, 5)", 1, x.sheet(3, 0, 5));
        Due.is("count(5)", 40, x.count(5));
        Due.is("sheet(0, 0, -1)", -14, x.sheet(0, 0, -1));
        Due.is("count(5)", 40, x.count(5));
        // new CELLS are 0
        x.lay(3, 1, 1);
        Due.is("read", 1, x.read(3, 0, 0, 1));
        x.lay(3, 4, 1);
        x.sheet(3, 0, 5);
        Due.is("read of CELLS 0", -20, x.read(3, 0, 0, 1));
        Due.is("read of CELLS 0", -20, x.read(3, 0, 3, 1));
        x.lay(3, 0, 1);
        x.sheet(3, 2, 40);
        Due.is("read of CELLS 0", -20, x.read(3, 2, 0, 1));
    }

    private static void lay() {
        Hands x = new Hands();
        Due.is("lay(4)", BAD, x.lay(4, 0, 1));
        Due.is("lay(-1)", BAD, x.lay(-1, 0, 1));
        Due.is("lay of nothing", -11, x.lay(2, 0, 1));
        Due.is("lay of nothing", -11, x.lay(2, -5, 1));
        x.sheet(2, 0, 3);
        Due.is("lay(2, 3)", -12, x.lay(2, 3, 1));
        Due.is("lay(2, -1)", -12, x.lay(2, -1, 1));
        Due.is("lay(2, max)", -12, x.lay(2, Integer.MAX_VALUE, 1));
        Due.is("lay(2, 2)", 1, x.lay(2, 2, 1));
        Due.is("read", 1, x.read(2, 0, 1, 1));
        x.sheet(2, 0, 0);
        Due.is("lay of no CELL", -12, x.lay(2, 0, 1));
    }

    /** The lowest bits, with a sign. */
    private static void lanes() {
        Hands x = new Hands();
        int[] values = {257, 65537, 255, 65535, -255, 1};
        int[][] read = {{1, -20, -20}, {1, 1, -20}, {-20, -20, -20}, {-20, -20, -20}, {1, -20, -20}, {1, 1, 1}};
        for (int v = 0; v < values.length; v++) {
            for (int lane = 0; lane < 3; lane++) {
                x.sheet(0, lane, 2);
                x.lay(0, 1, values[v]);
                Due.is("lane " + lane + " of " + values[v], read[v][lane], x.read(0, lane, 0, 1));
            }
        }
    }

    private static void read() {
        Hands x = Due.told("people 3;hold 1;knows 0 1;knows 1 2;knows 2 3;");
        x.sheet(1, 2, 8);
        int[] cells = {9, 0, 1, 2, 1, 0, 2, 9};
        for (int i = 0; i < 8; i++) {
            x.lay(1, i, cells[i]);
        }
        Due.is("read(4)", BAD, x.read(4, 2, 1, 1));
        Due.is("read(-1)", BAD, x.read(-1, 2, 1, 1));
        Due.is("read lane 3", BAD, x.read(1, 3, 1, 1));
        Due.is("read lane -1", BAD, x.read(1, -1, 1, 1));
        Due.is("read n 21", BAD, x.read(1, 2, 1, 21));
        Due.is("read n -1", BAD, x.read(1, 2, 1, -1));
        Due.row(x, 0, 1);
        Due.is("read", 3, x.read(1, 2, 1, 3));
        // 0-1, then 2-1, then 0-2
        Due.row(x, 0, 3);
        Due.row(x, 1, 3);
        Due.row(x, 2, 3);
        Due.is("torn()", 0, x.torn());
        x.sheet(0, 0, 40);
        for (int i = 1; i < 40; i += 2) {
            x.lay(0, i, 1);
        }
        Due.is("read of twenty", 20, x.read(0, 0, 0, 20));
        Due.is("torn()", 0, x.torn());
    }

    private static void readTorn() {
        Hands x = Due.told("people 3;knows 0 1;");
        x.sheet(0, 1, 4);
        x.lay(0, 1, 1);
        x.lay(0, 2, 2);
        Due.is("torn in the next", 2, x.read(0, 1, 0, 3));
        Due.is("torn()", 2, x.torn());
        Due.row(x, 1, 1);
        Due.row(x, 2, 1);
        Due.is("torn within a HAND", 1, x.read(0, 1, 1, 2));
        Due.is("torn()", 2, x.torn());
        // its first CELL is no ONE, but it is not whole
        x.lay(0, 3, 77);
        Due.is("half a HAND", 0, x.read(0, 1, 3, 1));
        Due.is("torn()", 2, x.torn());
        Due.is("n 0", 0, x.read(0, 1, 0, 0));
        Due.is("torn()", 0, x.torn());
        for (int f : new int[] {-1, -2, 4, 5, 40, Integer.MAX_VALUE, Integer.MAX_VALUE - 1, Integer.MIN_VALUE}) {
            x.read(0, 1, 0, 0);
            Due.is("read from " + f, 0, x.read(0, 1, f, 20));
            Due.is("torn() from " + f, 2, x.torn());
        }
        Due.is("another lane", 0, x.read(0, 0, 0, 1));
        Due.is("torn()", 3, x.torn());
        Due.is("another lane, out of it", 0, x.read(0, 2, 99, 1));
        Due.is("torn()", 3, x.torn());
        Due.is("nothing", 0, x.read(1, 0, -9, 1));
        Due.is("torn()", 1, x.torn());
        Due.is("n 0 of nothing", 0, x.read(1, 0, -9, 0));
        Due.is("torn()", 0, x.torn());
        x.read(1, 0, 0, 1);
        Due.is("n 0 of another lane", 0, x.read(0, 2, 0, 0));
        Due.is("torn()", 0, x.torn());
    }

    private static void readBad() {
        Hands x = Due.told("people 3;knows 0 1;");
        x.sheet(0, 0, 6);
        int[][] bad = {{0, 0}, {0, 3}, {3, 0}, {-1, 0}, {0, -1}, {2, 2}, {127, -128}};
        x.read(1, 0, 0, 1);
        for (int[] two : bad) {
            x.lay(0, 0, 0);
            x.lay(0, 1, 1);
            x.lay(0, 2, two[0]);
            x.lay(0, 3, two[1]);
            Due.is("a BAD HAND", -21, x.read(0, 0, 0, 2));
            Due.is("a BAD HAND, torn behind", -21, x.read(0, 0, 0, 9));
            Due.is("a BAD HAND at first", -20, x.read(0, 0, 2, 1));
            Due.is("torn() as it was", 1, x.torn());
            Due.row(x, 1);
        }
        Due.is("the one ahead", 1, x.read(0, 0, 0, 1));
        Due.row(x, 1, 1);
        Due.is("torn()", 0, x.torn());
        Due.is("BAD by n", BAD, x.read(0, 0, 0, 21));
        x.sheet(2, 0, 40);
        for (int i = 1; i < 39; i += 2) {
            x.lay(2, i, 1);
        }
        Due.is("the twentieth", -39, x.read(2, 0, 0, 20));
    }

    private static void readGloves() {
        Hands x = Due.told("people 3;knows 0 1;glove 1;");
        x.sheet(0, 0, 4);
        x.lay(0, 1, 1);
        x.lay(0, 3, 2);
        // nothing comes of the first HAND, but it came
        Due.is("read", 2, x.read(0, 0, 0, 2));
        Due.row(x, 1);
        Due.row(x, 2, 1);
    }

    private static void count() {
        Hands x = Due.told("people 4;knows 0 5 1;knows 1 1 7;knows 2 1;");
        Due.is("count(-1)", BAD, x.count(-1));
        Due.is("count(6)", BAD, x.count(6));
        Due.is("count(0)", 3, x.count(0));
        Due.is("count(1)", 0, x.count(1));
        x.learn(3, 1);
        Due.is("count(1)", 1, x.count(1));
        x.forget(0, 1);
        Due.is("count(1) but for ONE 0", 0, x.count(1));
        x.learn(0, 1);
        for (int p = 0; p < 4; p++) {
            x.learn(p, 0);
            x.learn(p, 15);
        }
        Due.is("count(1)", 3, x.count(1));
        x.saw(1, 0);
        Due.is("count(2)", 1, x.count(2));
        x.keep(0);
        Due.is("count(3)", 1, x.count(3));
        x.keep(0);
        Due.is("count(3)", 1, x.count(3));
        x.feed(0);
        x.end(5);
        Due.is("count(4)", 5, x.count(4));
        x.sheet(1, 0, 5);
        Due.is("count(5)", NONE, x.count(5));
        x.sheet(0, 2, 6);
        Due.is("count(5)", 6, x.count(5));
    }
}
