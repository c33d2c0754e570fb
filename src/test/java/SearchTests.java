/** Promises 20 to 22 (the fewest), 26 to 29 (which hands), 30 and 31 (seats, gloves). */
final class SearchTests {
    private static final int BAD = ShakeHands.BAD;
    private static final int STATE = ShakeHands.STATE;
    private static final int NONE = ShakeHands.NONE;

    private SearchTests() {
    }

    static void run() {
        fewest();
        fewestFirstByPairs();
        fewestAtAnyTime();
        rounds();
        lose();
        saw();
        fits();
        least();
        seats();
        gloves();
    }

    private static void fewest() {
        Hands x = Due.told("people 6;knows 0 1;knows 3 2;");
        int[][] bad = {{-1, 0, 0, 0}, {16, 0, 0, 0}, {1, -1, 0, 0}, {1, 64, 0, 0}, {1, 0, -1, 0}, {1, 0, 64, 0},
            {1, 1, 0, 1}, {1, 1, 0, -1}, {1, 1, 0, 9}, {1, 1, 0, 14}, {1, 1, 0, Integer.MIN_VALUE}};
        for (int[] b : bad) {
            Due.is("fewest", BAD, x.fewest(b[0], b[1], b[2], b[3]));
        }
        Due.is("fewest of none", 0, x.fewest(1, 0, 0, 0));
        Due.is("fewest now", 0, x.fewest(1, 1, 62, 0));
        Due.is("fewest now, the first", NONE, x.fewest(1, 1, 62, 10));
        Due.is("fewest of one", 1, x.fewest(1, 32, 0, 0));
        Due.is("its PAIR", 10, x.fewest(1, 32, 0, 10));
        Due.is("its second", NONE, x.fewest(1, 32, 0, 11));
        Due.is("fewest of all five", NONE, x.fewest(1, 63, 0, 0));
        Due.is("fewest of all five, the first", NONE, x.fewest(1, 63, 0, 10));
        Due.is("fewest of four", 4, x.fewest(1, 31, 32, 0));
        Due.is("the fourth", 6, x.fewest(1, 31, 32, 13));
        Due.is("some and others", NONE, x.fewest(1, 1, 1, 0));
        Due.is("some and others", NONE, x.fewest(1, 4, 4, 0));
        Due.is("others know it now", NONE, x.fewest(1, 0, 1, 0));
        Due.is("nobody has it", NONE, x.fewest(9, 1, 0, 0));
        Due.is("nobody has it nor shall", 0, x.fewest(9, 0, 63, 0));
        x.glove(0, true);
        Due.is("in GLOVES", NONE, x.fewest(1, 2, 0, 0));
        Due.is("in GLOVES already", 0, x.fewest(1, 1, 0, 0));
        x.glove(0, false);
        x.glove(5, true);
        Due.is("to GLOVES", NONE, x.fewest(1, 32, 0, 0));
        Due.row(x, 5);
        Due.row(x, 0, 1);
        // bits of three PEOPLE only
        x = Due.told("knows 0 1;");
        Due.is("bits above", BAD, x.fewest(1, 8, 0, 0));
        Due.is("bits above", BAD, x.fewest(1, 0, 8, 0));
    }

    private static void fewestFirstByPairs() {
        Hands x = Due.told("people 4;knows 0 1;");
        // 0-1, 0-2, 0-3 are PAIRS 0, 1, 3; likewise 0-1, then 1-2
        Due.is("fewest", 3, x.fewest(1, 15, 0, 0));
        Due.is("first", 0, x.fewest(1, 15, 0, 10));
        Due.is("second", 1, x.fewest(1, 15, 0, 11));
        Due.is("third", 3, x.fewest(1, 15, 0, 12));
        Due.is("fourth", NONE, x.fewest(1, 15, 0, 13));
        // a JOIN on the way: 3 has to come to 0 by way of 1
        x = Due.told("people 3;knows 0 1;knows 1 2;knows 2 4;join 1 2 3;join 3 4 5;");
        Due.is("fewest", 2, x.fewest(5, 1, 0, 0));
        Due.is("first", 0, x.fewest(5, 1, 0, 10));
        Due.is("second", 1, x.fewest(5, 1, 0, 11));
    }

    private static void fewestAtAnyTime() {
        Hands x = Due.told("people 3;knows 0 1;knows 1 2;knows 2 4;join 1 2 3;join 3 4 5;");
        Due.is("5 to 1", 2, x.fewest(5, 2, 0, 0));
        Due.is("5 to 1, not to the others", NONE, x.fewest(5, 2, 5, 0));
        Due.is("3 to nobody", 0, x.fewest(3, 0, 7, 0));
        // 0 makes 3 with 1, who would lose it with 2
        Due.is("3 to 0", 1, x.fewest(3, 1, 0, 0));
        Due.is("3 to 0, not to 1 for a while", NONE, x.fewest(3, 1, 2, 0));
        x = Due.told("people 2;hold 1;knows 0 1;knows 1 2;");
        Due.is("others now, who would lose it", NONE, x.fewest(1, 0, 1, 0));
        Due.is("it falls out", NONE, x.fewest(1, 2, 0, 0));
        Due.is("it stays", 1, x.fewest(2, 1, 0, 0));
        x = Due.told("people 3;hold 1;knows 0 1;knows 1 2;knows 2 3;");
        Due.is("3 to 0", 1, x.fewest(3, 1, 0, 0));
        Due.is("3 to 0 and 1", 2, x.fewest(3, 3, 0, 0));
        Due.is("1 to 0, 1, 2", NONE, x.fewest(1, 7, 0, 0));
    }

    private static void rounds() {
        Hands x = Due.told("people 6;knows 0 1;knows 3 2;");
        int[][] bad = {{-1, 0, 0}, {16, 0, 0}, {1, -1, 0}, {1, 64, 0}, {1, 0, -1}, {1, 0, 64}};
        for (int[] b : bad) {
            Due.is("rounds", BAD, x.rounds(b[0], b[1], b[2]));
        }
        Due.is("rounds now", 0, x.rounds(1, 1, 0));
        Due.is("rounds of none", 0, x.rounds(1, 0, 0));
        Due.is("rounds 1", 1, x.rounds(1, 3, 0));
        Due.is("rounds 2", 2, x.rounds(1, 15, 0));
        Due.is("rounds 2, just these", 2, x.rounds(1, 15, 48));
        Due.is("rounds of five", NONE, x.rounds(1, 31, 0));
        Due.is("others now", NONE, x.rounds(1, 0, 1));
        Due.is("some and others", NONE, x.rounds(1, 2, 2));
        x.glove(1, true);
        Due.is("in GLOVES", NONE, x.rounds(1, 3, 0));
        Due.is("besides GLOVES", 2, x.rounds(1, 29, 2));
        Due.row(x, 2);
        // three HANDS at once
        x = Due.told("people 6;knows 0 1;knows 2 1;knows 4 1;");
        Due.is("three at once", 1, x.rounds(1, 63, 0));
        Due.is("fewest likewise", 3, x.fewest(1, 63, 0, 0));
        x = Due.told("people 3;knows 0 1;knows 1 2;knows 2 4;join 1 2 3;join 3 4 5;");
        Due.is("5 to 0", 2, x.rounds(5, 1, 0));
        Due.is("5 to 0 and 1, not to 2", 2, x.rounds(5, 3, 4));
        // others are looked at behind the first ROUND too: 1 would lose 3 in the second
        Due.is("3 to 0", 1, x.rounds(3, 1, 0));
        Due.is("3 to 0, not to 1 for a while", NONE, x.rounds(3, 1, 2));
        Due.is("nobody has it", NONE, x.rounds(6, 1, 0));
        Due.is("others now, first of all", NONE, Due.told("knows 0 1;").rounds(1, 0, 1));
        // 0-3 and 1-2 at once
        x = Due.told("people 4;knows 0 4;knows 1 1;knows 2 2;knows 3 5;join 1 2 3;join 4 5 3;");
        Due.is("two at once", 1, x.rounds(3, 15, 0));
    }

    private static void lose() {
        Hands x = Due.told("people 2;hold 1;knows 0 7;knows 1 8;");
        Due.is("lose(8)", NONE, x.lose(8));
        Due.is("lose(7)", 1, x.lose(7));
        Due.is("lose(1)", 0, x.lose(1));
        Due.is("lose(16)", BAD, x.lose(16));
        Due.is("lose(-1)", BAD, x.lose(-1));
        Due.row(x, 0, 7);
        x = Due.told("people 6;hold 1;knows 0 1;knows 1 1;knows 2 1;knows 3 1;knows 4 1;knows 5 2;");
        Due.is("five of six know it", NONE, x.lose(1));
        x = Due.told("people 5;hold 1;knows 0 2;knows 1 1;knows 2 1;knows 3 1;knows 4 1;");
        Due.is("four of five, but he loses", NONE, x.lose(1));
        x = Due.told("people 2;knows 0 1;knows 1 2;join 1 2 3;");
        Due.is("lose by a JOIN", 1, x.lose(1));
        x.glove(0, true);
        Due.is("in GLOVES", NONE, x.lose(1));
    }

    private static void saw() {
        Hands x = new Hands();
        Due.is("saw(3, 0)", BAD, x.saw(3, 0));
        Due.is("saw(-1, 0)", BAD, x.saw(-1, 0));
        Due.is("saw(0, -1)", BAD, x.saw(0, -1));
        Due.is("saw(0, 65536)", BAD, x.saw(0, 65536));
        Due.is("blind()", 0, x.blind());
        Due.is("saw(0, 65535)", 1, x.saw(0, 65535));
        Due.is("saw(2, 0)", 2, x.saw(2, 0));
        Due.is("saw(2, 4)", 2, x.saw(2, 4));
        Due.is("count(2)", 2, x.count(2));
        Due.is("blind()", 2, x.blind());
        Due.is("count(2)", 0, x.count(2));
        Due.is("blind()", 0, x.blind());
    }

    private static void fits() {
        Hands x = Due.told("people 4;knows 0 1;knows 1 2;knows 2 3;knows 3 4;");
        Due.is("fits(-1, 0)", BAD, x.fits(-1, 0));
        Due.is("fits(5, 0)", BAD, x.fits(5, 0));
        Due.is("fits(0, -1)", BAD, x.fits(0, -1));
        Due.is("fits(0, 3)", BAD, x.fits(0, 3));
        // nobody SEEN: all of them
        int all = 1;
        for (int n = 0; n <= 4; n++) {
            Due.is("fits(n, 0)", all, x.fits(n, 0));
            Due.is("fits(n, 1)", 0, x.fits(n, 1));
            Due.is("fits(n, 2)", n == 0 ? 0 : 63, x.fits(n, 2));
            all *= 6;
        }
        x.saw(0, 2 + 8);
        Due.is("fits(0, 0)", 0, x.fits(0, 0));
        Due.is("fits(0, 1)", NONE, x.fits(0, 1));
        Due.is("fits(0, 2)", NONE, x.fits(0, 2));
        Due.is("fits(1, 0)", 1, x.fits(1, 0));
        Due.is("fits(1, 1)", 2, x.fits(1, 1));
        Due.is("fits(1, 2)", 2, x.fits(1, 2));
        // 02 02; 02 and 13 before or behind, 12 and 23 behind
        Due.is("fits(2, 0)", 5, x.fits(2, 0));
        Due.is("fits(2, 1)", 2, x.fits(2, 1));
        Due.is("fits(2, 2)", 2 + 4 + 16 + 32, x.fits(2, 2));
        x.glove(3, true);
        Due.is("fits(2, 0) with GLOVES", 2, x.fits(2, 0));
        Due.is("fits(2, 2) with GLOVES", 2 + 4, x.fits(2, 2));
        x.saw(0, 2);
        x.glove(0, true);
        Due.is("only 12 left", 1, x.fits(4, 0));
        Due.is("only 12 left", 4, x.fits(4, 1));
        x.glove(1, true);
        Due.is("none left", 0, x.fits(1, 0));
        Due.is("none left, of none", 1, x.fits(0, 0));
        Due.is("none left", NONE, x.fits(3, 1));
        Due.row(x, 0, 1);
        // of six: as many as there can be
        x = Due.told("people 6;");
        Due.is("fits(4, 0) of six", 50625, x.fits(4, 0));
        Due.is("fits(4, 2) of six", 32767, x.fits(4, 2));
        Due.is("fits(1, 1) of six", 0, x.fits(1, 1));
        Due.is("fits(1, 1) of two", 1, Due.told("people 2;").fits(1, 1));
    }

    private static void least() {
        Hands x = Due.told("people 6;knows 0 1;");
        Due.is("least() of none SEEN", 0, x.least());
        x.saw(0, 2);
        Due.is("least() now", 0, x.least());
        x.saw(1, 2);
        Due.is("least()", 1, x.least());
        x.saw(2, 2);
        x.saw(3, 2);
        Due.is("least()", 3, x.least());
        x.saw(4, 2);
        Due.is("least()", 4, x.least());
        x.saw(5, 2);
        Due.is("least()", NONE, x.least());
        x.saw(5, 0);
        Due.is("least()", 4, x.least());
        x.glove(4, true);
        Due.is("least() with GLOVES", NONE, x.least());
        x.blind();
        Due.is("least()", 0, x.least());
        x.saw(1, 1);
        Due.is("least()", NONE, x.least());
    }

    private static void seats() {
        Hands x = Due.told("people 3;knows 0 1;");
        Due.is("seats(16, 1, 0)", BAD, x.seats(16, 1, 0));
        Due.is("seats(-1, 1, 0)", BAD, x.seats(-1, 1, 0));
        Due.is("seats(1, 3, 0)", BAD, x.seats(1, 3, 0));
        Due.is("seats(1, -1, 0)", BAD, x.seats(1, -1, 0));
        Due.is("seats(1, 1, 1)", BAD, x.seats(1, 1, 1));
        Due.is("seats(1, 1, 9)", BAD, x.seats(1, 1, 9));
        Due.is("seats(1, 1, 13)", BAD, x.seats(1, 1, 13));
        Due.is("seats(1, 1, -1)", BAD, x.seats(1, 1, -1));
        Due.is("seats(1, 0, 0)", STATE, x.seats(1, 0, 0));
        Due.is("seats(1, 0, 10)", STATE, x.seats(1, 0, 10));
        Due.is("seats(1, 0, 13)", BAD, x.seats(1, 0, 13));
        // only 2 1 0: 1 comes to know it at the end, 2 does not (2 0 1 tells 2)
        Due.is("seats(1, 1, 0)", 1, x.seats(1, 1, 0));
        Due.is("seat 0", 2, x.seats(1, 1, 10));
        Due.is("seat 1", 1, x.seats(1, 1, 11));
        Due.is("seat 2", 0, x.seats(1, 1, 12));
        Due.is("seats(1, 2, 0)", 1, x.seats(1, 2, 0));
        Due.is("seat 0", 1, x.seats(1, 2, 10));
        Due.is("nobody has it", 0, x.seats(2, 1, 0));
        Due.is("nobody has it", NONE, x.seats(2, 1, 10));
        Due.row(x, 1);
        x.glove(2, true);
        // 0 1 2, 1 0 2, 2 0 1, 2 1 0
        Due.is("besides GLOVES", 4, x.seats(1, 1, 0));
        Due.is("seat 0", 0, x.seats(1, 1, 10));
        Due.is("seat 2", 2, x.seats(1, 1, 12));
        Due.is("in GLOVES", 0, x.seats(1, 2, 0));
        // 1, who knows it now, loses it
        x = Due.told("people 3;hold 1;knows 0 1;knows 1 2;knows 2 3;");
        // 0 1 2 and 2 0 1
        Due.is("seats(2, 0, 0)", 2, x.seats(2, 0, 0));
        Due.is("seat 0", 0, x.seats(2, 0, 10));
        Due.is("seat 2", 2, x.seats(2, 0, 12));
        Due.is("it falls out", 0, x.seats(1, 1, 0));
        x = Due.told("people 2;hold 1;knows 0 1;knows 1 2;");
        Due.is("either way", 2, x.seats(2, 0, 0));
        x = Due.told("people 6;knows 0 1;");
        // the last two are 5 and 0
        Due.is("of six", 24, x.seats(1, 5, 0));
        int[] first = {1, 2, 3, 4, 5, 0};
        for (int i = 0; i < 6; i++) {
            Due.is("seat", first[i], x.seats(1, 5, 10 + i));
        }
        Due.is("seats(1, 5, 16)", BAD, x.seats(1, 5, 16));
    }

    private static void gloves() {
        Hands x = Due.told("people 5;knows 0 1;hand 0 1;hand 0 2;hand 1 3;hand 2 3;hand 3 4;");
        Due.is("gloves(16, 4, 0)", BAD, x.gloves(16, 4, 0));
        Due.is("gloves(-1, 4, 0)", BAD, x.gloves(-1, 4, 0));
        Due.is("gloves(1, 5, 0)", BAD, x.gloves(1, 5, 0));
        Due.is("gloves(1, -1, 0)", BAD, x.gloves(1, -1, 0));
        Due.is("gloves(1, 4, 2)", BAD, x.gloves(1, 4, 2));
        Due.is("gloves(1, 4, -1)", BAD, x.gloves(1, 4, -1));
        Due.is("gloves(1, 0, 0)", STATE, x.gloves(1, 0, 0));
        Due.is("gloves(1, 4, 0)", 1, x.gloves(1, 4, 0));
        Due.is("gloves(1, 4, 1)", 1, x.gloves(1, 4, 1));
        Due.is("gloves(2, 4, 0)", 0, x.gloves(2, 4, 0));
        Due.is("gloves(2, 4, 1)", 0, x.gloves(2, 4, 1));
        Due.row(x, 4);
        // two who know it: the one who would hear wears them
        x.learn(3, 1);
        Due.is("gloves(1, 4, 1)", 8, x.gloves(1, 4, 1));
        x.learn(1, 9);
        x.forget(3, 1);
        x.glove(0, true);
        Due.is("besides those who do", 0, x.gloves(1, 4, 0));
        Due.is("rule(5)", 1, x.rule(5));
        // two by two, not the greater number of lesser bits: 3 alone (8) is fewer than 0 and 1 (3)
        x = Due.told("people 4;knows 0 1;knows 1 1;hand 0 2;hand 1 2;hand 2 3;");
        Due.is("gloves(1, 3, 0)", 1, x.gloves(1, 3, 0));
        Due.is("gloves(1, 3, 1)", 4, x.gloves(1, 3, 1));
        x = Due.told("people 4;knows 0 1;knows 1 1;hand 0 3;hand 1 3;");
        Due.is("gloves(1, 3, 1)", 8, x.gloves(1, 3, 1));
        x = Due.told("people 4;hold 1;knows 0 1;knows 1 2;hand 0 1;hand 1 2;");
        Due.is("the least of two", 2, x.gloves(2, 2, 1));
        Due.is("it falls out", 0, x.gloves(1, 2, 0));
    }
}
