/** Promises 9 to 19 (who knows what, the feast) and 23 to 25 (the habit). */
final class KnowTests {
    private static final int BAD = ShakeHands.BAD;
    private static final int STATE = ShakeHands.STATE;
    private static final int NONE = ShakeHands.NONE;

    private KnowTests() {
    }

    static void run() {
        knowsRowWho();
        learn();
        forget();
        glove();
        shake();
        shakePairs();
        joins();
        feast();
        after();
        lost();
        told();
        lives();
        comes();
        days();
    }

    private static void knowsRowWho() {
        Hands x = Due.told("people 4;knows 0 3 0 15;knows 3 0;");
        Due.is("knows(0)", 0x8009, x.knows(0));
        Due.is("knows(1)", 0, x.knows(1));
        Due.is("knows(4)", BAD, x.knows(4));
        Due.is("knows(-1)", BAD, x.knows(-1));
        Due.is("knows(min)", BAD, x.knows(Integer.MIN_VALUE));
        Due.is("row(0, 0)", 3, x.row(0, 0));
        Due.is("row(0, 1)", 0, x.row(0, 1));
        Due.is("row(0, 2)", 15, x.row(0, 2));
        Due.is("row(0, 3)", NONE, x.row(0, 3));
        Due.is("row(0, max)", NONE, x.row(0, Integer.MAX_VALUE));
        Due.is("row(0, -1)", BAD, x.row(0, -1));
        Due.is("row(4, 0)", BAD, x.row(4, 0));
        Due.is("row(-1, 0)", BAD, x.row(-1, 0));
        Due.is("who(0)", 9, x.who(0));
        Due.is("who(3)", 1, x.who(3));
        Due.is("who(15)", 1, x.who(15));
        Due.is("who(7)", 0, x.who(7));
        Due.is("who(16)", BAD, x.who(16));
        Due.is("who(-1)", BAD, x.who(-1));
    }

    private static void learn() {
        Hands x = Due.told("hold 3;knows 0 1 2;join 2 5 1;join 1 7 0;");
        Due.is("learn(3, 1)", BAD, x.learn(3, 1));
        Due.is("learn(-1, 1)", BAD, x.learn(-1, 1));
        Due.is("learn(0, 16)", BAD, x.learn(0, 16));
        Due.is("learn(0, -1)", BAD, x.learn(0, -1));
        Due.is("learn(0, 1)", STATE, x.learn(0, 1));
        Due.is("learn(0, 4)", 3, x.learn(0, 4));
        Due.row(x, 0, 1, 2, 4);
        Due.is("learn(0, 9)", 3, x.learn(0, 9));
        Due.row(x, 0, 2, 4, 9);
        // 2 and 5 become 1 ahead of the falling out
        Due.is("learn(0, 5)", 3, x.learn(0, 5));
        Due.row(x, 0, 4, 9, 1);
        // 1 and 7 become 0, which comes last
        Due.is("learn(0, 7)", 3, x.learn(0, 7));
        Due.row(x, 0, 4, 9, 0);
        // GLOVES do not hinder
        x.glove(1, true);
        Due.is("learn(1, 0)", 1, x.learn(1, 0));
        x = Due.told("hold 1;knows 0 1;");
        Due.is("learn(0, 2)", 1, x.learn(0, 2));
        Due.row(x, 0, 2);
        x = Due.told("knows 0 0 1 2 3 4 5 6 7 8;");
        Due.is("learn(0, 9)", 9, x.learn(0, 9));
        Due.row(x, 0, 1, 2, 3, 4, 5, 6, 7, 8, 9);
    }

    private static void forget() {
        Hands x = Due.told("knows 0 4 1 9;knows 1 1;join 4 9 7;");
        Due.is("forget(3, 1)", BAD, x.forget(3, 1));
        Due.is("forget(0, 16)", BAD, x.forget(0, 16));
        Due.is("forget(0, -1)", BAD, x.forget(0, -1));
        Due.is("forget(0, 2)", NONE, x.forget(0, 2));
        // no JOIN is made of that
        Due.is("forget(0, 1)", 2, x.forget(0, 1));
        Due.row(x, 0, 4, 9);
        Due.is("forget(0, 1)", NONE, x.forget(0, 1));
        Due.is("forget(0, 9)", 1, x.forget(0, 9));
        Due.is("forget(0, 4)", 0, x.forget(0, 4));
        Due.row(x, 0);
        Due.row(x, 1, 1);
        x = Due.told("knows 0 0 1 2 3 4 5 6 7 15;");
        Due.is("forget(0, 0)", 8, x.forget(0, 0));
        Due.is("forget(0, 15)", 7, x.forget(0, 15));
        Due.row(x, 0, 1, 2, 3, 4, 5, 6, 7);
    }

    private static void glove() {
        Hands x = new Hands();
        Due.is("glove(3, true)", BAD, x.glove(3, true));
        Due.is("glove(-1, false)", BAD, x.glove(-1, false));
        Due.is("glove(2, true)", 0, x.glove(2, true));
        Due.is("glove(2, true)", 1, x.glove(2, true));
        Due.is("rule(5)", 1, x.rule(5));
        Due.is("glove(0, false)", 0, x.glove(0, false));
        Due.is("glove(2, false)", 1, x.glove(2, false));
        Due.is("glove(2, false)", 0, x.glove(2, false));
        Due.is("rule(5)", 0, x.rule(5));
    }

    private static void shake() {
        Hands x = Due.told("people 4;hold 4;knows 0 3 1;knows 2 5 1 4 9;");
        Due.is("shake(0, 0)", BAD, x.shake(0, 0));
        Due.is("shake(0, 4)", BAD, x.shake(0, 4));
        Due.is("shake(4, 0)", BAD, x.shake(4, 0));
        Due.is("shake(-1, 0)", BAD, x.shake(-1, 0));
        // the ROW of the lesser number leads, whoever comes first in the call
        Due.is("shake(2, 0)", 4, x.shake(2, 0));
        Due.row(x, 0, 1, 5, 4, 9);
        Due.row(x, 2, 1, 5, 4, 9);
        Due.is("shake(1, 3)", 0, x.shake(1, 3));
        Due.is("shake(1, 2)", 4, x.shake(1, 2));
        Due.row(x, 1, 1, 5, 4, 9);
        x.glove(3, true);
        Due.is("shake(3, 0)", NONE, x.shake(3, 0));
        Due.is("shake(0, 3)", NONE, x.shake(0, 3));
        Due.row(x, 3);
        Due.is("shake(3, 3)", BAD, x.shake(3, 3));
        x.glove(3, false);
        Due.is("shake(3, 0)", 4, x.shake(3, 0));
        // all sixteen THINGS for a moment
        x = Due.told("people 2;knows 0 0 1 2 3 4 5 6 7;knows 1 15 14 13 12 11 10 9 8;");
        Due.is("shake(0, 1)", 9, x.shake(0, 1));
        Due.row(x, 0, 7, 15, 14, 13, 12, 11, 10, 9, 8);
        x = Due.told("people 2;knows 0 0 1 2 3 4 5 6 7;knows 1 15 14 13 12 11 10 9 8;join 8 0 9;join 9 15 1;");
        Due.is("shake(0, 1)", 9, x.shake(0, 1));
        Due.row(x, 1, 4, 5, 6, 7, 14, 13, 12, 11, 10);
    }

    /** Each PAIR of six: these two know it then, and nobody else. */
    private static void shakePairs() {
        for (int a = 0; a < 6; a++) {
            for (int b = 0; b < 6; b++) {
                if (a != b) {
                    Hands x = Due.told("people 6;knows " + a + " 4;");
                    Due.is("shake", 1, x.shake(a, b));
                    Due.is("who(4)", 1 << a | 1 << b, x.who(4));
                }
            }
        }
    }

    private static void joins() {
        // the first JOIN goes ahead, again and again
        Hands x = Due.told("knows 0 1 2;knows 1 3;join 3 4 5;join 1 2 4;");
        Due.is("shake", 1, x.shake(0, 1));
        Due.row(x, 0, 5);
        // of two that both could be made, the first of them
        x = Due.told("knows 0 1 2;knows 1 3;join 2 3 6;join 1 2 7;");
        Due.is("shake", 2, x.shake(0, 1));
        Due.row(x, 1, 1, 6);
        // what is in it already stays where it is
        x = Due.told("knows 0 9 1;knows 1 2 8;join 1 2 9;");
        Due.is("shake", 2, x.shake(1, 0));
        Due.row(x, 0, 9, 8);
        // a JOIN is made once and again
        x = Due.told("knows 0 1 2 3;knows 1 4;join 1 2 5;join 3 4 1;join 5 1 2;");
        Due.is("shake", 1, x.shake(0, 1));
        Due.row(x, 0, 2);
        // JOINS ahead of the falling out
        x = Due.told("hold 2;knows 0 1 2;knows 1 3 4;join 1 4 5;");
        Due.is("shake", 2, x.shake(0, 1));
        Due.row(x, 0, 3, 5);
        // told but not made: two alike ROWS make it
        x = Due.told("knows 0 1 2;knows 1 1 2;join 1 2 5;");
        Due.is("shake", 1, x.shake(0, 1));
        Due.row(x, 1, 5);
        // GLOVES: not made
        x = Due.told("knows 0 1 2;join 1 2 5;glove 0;hand 0 1;");
        Due.is("feast(1)", 0, x.feast(1));
        Due.row(x, 0, 1, 2);
    }

    private static void feast() {
        Hands x = Due.told("hold 1;knows 0 1;knows 1 2;knows 2 3;hand 0 1;hand 2 1;hand 2 0;");
        Due.is("feast(-1)", BAD, x.feast(-1));
        Due.is("feast(4)", BAD, x.feast(4));
        Due.is("feast(0)", 0, x.feast(0));
        Due.row(x, 0, 1);
        Due.is("feast(2)", 6 - 4, x.feast(2));
        Due.row(x, 0, 2);
        Due.row(x, 1, 3);
        Due.row(x, 2, 3);
        Due.is("feast(3)", 4, x.feast(3));
        Due.is("feast(3)", 0, x.feast(3));
        // what comes new is not lost
        x = Due.told("knows 0 1 6;knows 1 2;join 1 2 3;hand 0 1;");
        Due.is("feast(1)", 6, x.feast(1));
        Due.row(x, 0, 6, 3);
        Due.is("feast(1) of none", BAD, new Hands().feast(1));
        Due.is("feast(0) of none", 0, new Hands().feast(0));
    }

    private static void after() {
        Hands x = Due.told("hold 1;knows 0 1;knows 1 2;knows 2 3;hand 0 1;hand 2 1;hand 2 0;");
        Due.is("after(0, 0)", 2, x.after(0, 0));
        Due.is("after(1, 0)", 4, x.after(1, 0));
        Due.is("after(1, 2)", 8, x.after(1, 2));
        Due.is("after(2, 1)", 8, x.after(2, 1));
        Due.is("after(3, 0)", 8, x.after(3, 0));
        Due.is("after(4, 0)", BAD, x.after(4, 0));
        Due.is("after(-1, 0)", BAD, x.after(-1, 0));
        Due.is("after(0, 3)", BAD, x.after(0, 3));
        Due.is("after(0, -1)", BAD, x.after(0, -1));
        Due.row(x, 0, 1);
        x.glove(1, true);
        Due.is("after(3, 0)", 8, x.after(3, 0));
        Due.is("after(3, 1)", 4, x.after(3, 1));
    }

    private static void lost() {
        Hands x = Due.told("hold 1;knows 0 1;knows 1 2;knows 2 3;hand 0 1;hand 2 1;hand 2 0;");
        Due.is("lost(1)", 0, x.lost(1));
        Due.is("lost(2)", 2, x.lost(2));
        Due.is("lost(3)", NONE, x.lost(3));
        Due.is("lost(4)", STATE, x.lost(4));
        Due.is("lost(16)", BAD, x.lost(16));
        Due.is("lost(-1)", BAD, x.lost(-1));
        Due.row(x, 0, 1);
        // lost and back again: the first time
        x = Due.told("knows 0 1;knows 1 2 4;join 1 2 3;join 3 4 1;hand 0 1;");
        Due.is("lost(1)", NONE, x.lost(1));
        Due.is("lost(2)", 0, x.lost(2));
        x = Due.told("knows 0 1;knows 1 2;knows 2 4;join 1 2 3;join 3 4 1;hand 0 1;hand 1 2;");
        Due.is("lost(1)", 0, x.lost(1));
        Due.is("told(2, 1)", 1, x.told(2, 1));
        Due.is("told(1, 1)", 1, x.told(1, 1));
    }

    private static void told() {
        Hands x = Due.told("people 4;hold 2;knows 0 1;knows 1 2;hand 2 3;hand 0 1;hand 2 1;hand 1 0;glove 3;");
        Due.is("told(0, 1)", STATE, x.told(0, 1));
        Due.is("told(0, 2)", 1, x.told(0, 2));
        Due.is("told(2, 2)", 2, x.told(2, 2));
        Due.is("told(3, 1)", NONE, x.told(3, 1));
        Due.is("told(0, 5)", NONE, x.told(0, 5));
        Due.is("told(4, 1)", BAD, x.told(4, 1));
        Due.is("told(-1, 1)", BAD, x.told(-1, 1));
        Due.is("told(0, 16)", BAD, x.told(0, 16));
        Due.is("told(0, -1)", BAD, x.told(0, -1));
        Due.row(x, 2);
    }

    private static void lives() {
        Hands x = Due.told("people 4;hold 1;knows 0 1;knows 1 2;knows 2 3;knows 3 4;daily 2 3;daily 1 2;daily 0 1;");
        Due.is("lives(0)", 0, x.lives(0));
        Due.is("lives(1)", 1, x.lives(1));
        Due.is("lives(3)", 1, x.lives(3));
        Due.is("lives(4)", NONE, x.lives(4));
        Due.is("lives(16)", BAD, x.lives(16));
        Due.is("lives(-1)", BAD, x.lives(-1));
        Due.row(x, 0, 1);
        x = Due.told("people 4;hold 1;knows 0 1;knows 1 2;knows 2 3;knows 3 4;daily 0 1;daily 1 2;daily 2 3;");
        Due.is("lives(1)", 1, x.lives(1));
        Due.is("lives(2)", 2, x.lives(2));
        Due.is("lives(3)", 3, x.lives(3));
        Due.is("lives(4)", NONE, x.lives(4));
        // looked at by night, not by HAND
        x = Due.told("knows 0 1;knows 1 2;knows 2 4;join 1 2 3;join 3 4 1;daily 0 1;daily 1 2;");
        Due.is("lost within the day", 1, x.lives(2));
        Due.is("lives(1)", NONE, x.lives(1));
        x.glove(0, true);
        Due.is("lives(2) with GLOVES", NONE, x.lives(2));
        // 208 DAYS of life: 200 at most are looked through
        x = Due.told("people 6;hold 7;knows 0 4 7;knows 1 1 4;knows 2 3 1;knows 3 0 11;knows 4 9 6;knows 5 2 7;"
                + "daily 0 3;daily 4 2;daily 0 4;daily 5 0;daily 4 3;daily 3 1;");
        x.days(7);
        Due.is("201 DAYS left", NONE, x.lives(11));
        x.days(1);
        Due.is("200 DAYS left", 200, x.lives(11));
        x.days(99);
        x.days(99);
        Due.is("2 DAYS left", 2, x.lives(11));
        x.days(1);
        Due.is("1 DAY left", 1, x.lives(11));
        Due.is("none left", 0, x.days(1) >>> 11 & 1);
        Due.is("no DAY left", 0, x.lives(11));
    }

    private static void comes() {
        Hands x = new Hands();
        Due.is("comes(0)", 0, x.comes(0));
        Due.is("comes(1)", 1, x.comes(1));
        Due.is("comes(2)", BAD, x.comes(2));
        Due.is("comes(-1)", BAD, x.comes(-1));
        x = Due.told("people 4;hold 3;knows 0 1 2 3;knows 1 4;knows 2 5 1;daily 0 1;daily 1 2;daily 2 3;daily 3 0;"
                + "join 4 5 6;hand 0 1;");
        Due.is("comes(0)", 3, x.comes(0));
        Due.is("comes(1)", 4, x.comes(1));
        Due.row(x, 0, 1, 2, 3);
        x.days(3);
        Due.is("comes(0)", 0, x.comes(0));
        Due.is("comes(1)", 4, x.comes(1));
        int[] before = {x.row(0, 0), x.row(0, 1), x.row(0, 2)};
        x.days(4);
        Due.row(x, 0, before);
        // ROWS, not sets of THINGS: the order counts
        x = Due.told("people 3;hold 2;knows 0 1 2;knows 1 2 1;daily 0 1;");
        Due.is("comes(0)", 1, x.comes(0));
        Due.is("comes(1)", 1, x.comes(1));
        // what comes back behind 200 DAYS, and behind 201
        x = Due.told("people 6;hold 6;knows 0 3 2;knows 1 1 9;knows 2 2 5;knows 3 5;knows 4 4 7;knows 5 8 5;"
                + "daily 0 1;daily 2 5;daily 4 0;daily 0 2;daily 0 5;daily 4 3;daily 0 4;daily 5 0;");
        Due.is("comes(0)", 8, x.comes(0));
        Due.is("comes(1)", 192, x.comes(1));
        x = Due.told("people 6;hold 5;knows 0 3;knows 1 12;knows 2 3 0;knows 3 10 6;knows 4 11 14;knows 5 10;"
                + "join 11 10 8;daily 3 0;daily 3 2;daily 1 2;daily 1 5;daily 2 1;daily 1 4;");
        Due.is("comes(0)", NONE, x.comes(0));
        Due.is("comes(1)", NONE, x.comes(1));
        x.days(1);
        Due.is("comes(0)", 8, x.comes(0));
        Due.is("comes(1)", 192, x.comes(1));
        x.days(7);
        Due.is("comes(0)", 1, x.comes(0));
        x.days(2);
        Due.is("comes(0)", 0, x.comes(0));
        Due.is("comes(1)", 192, x.comes(1));
    }

    private static void days() {
        Hands x = Due.told("people 4;hold 1;knows 0 1;knows 1 2;knows 2 3;knows 3 4;daily 0 1;daily 1 2;daily 2 3;");
        Due.is("days(0)", BAD, x.days(0));
        Due.is("days(100)", BAD, x.days(100));
        Due.is("days(-1)", BAD, x.days(-1));
        Due.row(x, 0, 1);
        Due.is("days(1)", 4 + 8 + 16, x.days(1));
        Due.row(x, 0, 2);
        Due.row(x, 1, 3);
        Due.row(x, 2, 4);
        Due.row(x, 3, 4);
        Due.is("days(2)", 16, x.days(2));
        Due.row(x, 0, 4);
        Due.is("days(99)", 16, x.days(99));
        Due.is("days(1) of none", 0, new Hands().days(1));
    }
}
