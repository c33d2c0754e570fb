/** Counts answers that are due and prints those that are not given. */
final class Due {
    static int passed;
    static int failed;
    /** The sentence of the document that is looked at; or nothing. */
    static String sentence = "";

    private Due() {
    }

    static void is(String call, long want, long got) {
        if (want == got) {
            passed++;
        } else {
            failed++;
            System.out.println(sentence + call + " answered " + got + ", due is " + want);
        }
    }

    static void holds(String what, boolean is) {
        is(what, 1, is ? 1 : 0);
    }

    /** Lays a text on an empty TAPE. */
    static void lay(Hands x, String text) {
        lay(x, text.getBytes(java.nio.charset.StandardCharsets.ISO_8859_1));
    }

    static void lay(Hands x, byte[] bytes) {
        for (int i = 0; i < bytes.length; i += 8) {
            long v = 0;
            for (int j = i; j < i + 8; j++) {
                v = v << 8 | (j < bytes.length ? bytes[j] & 255 : 0);
            }
            x.feed(v);
        }
        x.end(bytes.length);
    }

    /** A new object that was told a text which must be taken. */
    static Hands told(String text) {
        Hands x = new Hands();
        tell(x, text);
        return x;
    }

    static void tell(Hands x, String text) {
        lay(x, text);
        int lines = (int) text.chars().filter(c -> c == ';').count();
        is("text() of " + text, lines, x.text());
    }

    /** That a text has a FAULT at a place. */
    static void refuses(String text, int fault, int place) {
        Hands x = new Hands();
        refuses(x, text, fault, place);
    }

    static void refuses(Hands x, String text, int fault, int place) {
        lay(x, text);
        is("text() of " + text, -10 - place, x.text());
        is("fault() of " + text, fault, x.fault());
        is("count(4) behind " + text, 0, x.count(4));
    }

    /** That a ONE has just this ROW. */
    static void row(Hands x, int p, int... things) {
        int bits = 0;
        for (int i = 0; i < things.length; i++) {
            is("row(" + p + ", " + i + ")", things[i], x.row(p, i));
            bits |= 1 << things[i];
        }
        is("row(" + p + ", " + things.length + ")", ShakeHands.NONE, x.row(p, things.length));
        is("knows(" + p + ")", bits, x.knows(p));
    }
}
