import java.lang.reflect.Method;
import java.util.ArrayList;
import java.util.Arrays;
import java.util.HashMap;
import java.util.List;
import java.util.Map;
import java.util.Random;

/** The program against PlainFace, by runs of calls drawn from fixed seeds: within, at and outside of their bounds. */
final class ModelTests {
    private static final int RUNS = 1500;
    private static final int TEXTS = 5000;
    /** What a look at everything takes, and a text of 320 bytes behind it. */
    private static final int LOOK = 140;
    private static final int TOLD = 42;
    /** Each call with what it takes, as often as it is drawn. */
    private static final String[] CALLS = {
        "feed v", "feed v", "end tape", "text", "fault", "rule what5", "hand hand is", "hand daily is", "join join what2",
        "knows one", "row one row", "who thing", "learn one thing", "learn one thing", "forget one thing", "glove one is",
        "shake one one", "shake one one", "shake one one", "feast part", "after part one", "after part one", "lost thing",
        "lost thing", "told one thing", "told one thing", "fewest thing bits bits pair", "fewest thing bits others pair",
        "rounds thing bits bits", "rounds thing bits others", "lose thing", "lives thing", "lives thing", "comes what1",
        "comes what1", "days days", "saw one sight", "saw one sight", "blind", "fits many what2", "least",
        "seats thing one seat", "seats thing one seat", "gloves thing one what1", "gloves thing one what1", "keep image",
        "back image", "sheet sheet lane size", "lay sheet cell ones", "lay sheet cell ones", "lay sheet cell ones",
        "read sheet lane cell hands", "read sheet lane cell hands", "torn", "count what5"};
    private static final Map<String, Method> OURS = methods(Hands.class);
    private static final Map<String, Method> MODELS = methods(PlainFace.class);

    private final Random random;
    private final Hands x = new Hands();
    private final PlainFace m = new PlainFace();
    private final StringBuilder told = new StringBuilder();

    private ModelTests(long seed) {
        random = new Random(seed);
    }

    static void run() throws ReflectiveOperationException {
        for (int seed = 0; seed < RUNS; seed++) {
            new ModelTests(seed).drive();
        }
        for (int seed = RUNS; seed < RUNS + TEXTS; seed++) {
            ModelTests texts = new ModelTests(seed);
            while (texts.x.left() >= LOOK + TOLD) {
                texts.faultyText();
            }
        }
    }

    private static Map<String, Method> methods(Class<?> of) {
        Map<String, Method> all = new HashMap<>();
        for (Method method : of.getDeclaredMethods()) {
            method.setAccessible(true);
            all.put(method.getName(), method);
        }
        return all;
    }

    private int below(int n) {
        return random.nextInt(n);
    }

    // ---- texts

    private String text(int mostPeople) {
        int people = 2 + below(mostPeople - 1);
        int hold = 1 + below(below(2) == 0 ? 9 : 3);
        int things = 2 + below(15);
        StringBuilder s = new StringBuilder();
        s.append("people ").append(people).append(";hold ").append(hold).append(';');
        for (int p = 0; p < people; p++) {
            if (below(4) != 0) {
                s.append("knows ").append(p);
                int seen = 0;
                int n = 1 + below(hold);
                for (int i = 0; i < n; i++) {
                    int thing = below(things);
                    if ((seen >> thing & 1) == 0) {
                        s.append(' ').append(thing);
                        seen |= 1 << thing;
                    }
                }
                s.append(';');
            }
            if (below(9) == 0) {
                s.append("glove ").append(p).append(';');
            }
        }
        for (int j = below(5); j > 0 && things > 2; j--) {
            int a = below(things);
            int b = below(things);
            int c = below(things);
            if (a != b && b != c && a != c) {
                s.append("join " + a + " " + b + " " + c + ";");
            }
        }
        pairs(s, "hand", people, below(below(3) == 0 ? 17 : 8));
        pairs(s, "daily", people, below(below(2) == 0 ? 9 : 5));
        return s.length() <= 320 ? s.toString() : s.substring(0, s.lastIndexOf(";", 319) + 1);
    }

    private void pairs(StringBuilder s, String name, int people, int n) {
        for (int i = 0; i < n; i++) {
            int a = below(people);
            int b = (a + 1 + below(people - 1)) % people;
            s.append(name + " " + a + " " + b + ";");
        }
    }

    /** A text with some bytes changed, mostly to a FAULT. */
    private void faultyText() throws ReflectiveOperationException {
        StringBuilder s = new StringBuilder(text(6));
        String signs = " ;0123456789az#knowspeople";
        for (int i = below(4); i > 0 && s.length() > 0; i--) {
            int at = below(s.length());
            switch (below(4)) {
                case 0:
                    s.deleteCharAt(at);
                    break;
                case 1:
                    s.insert(at, signs.charAt(below(signs.length())));
                    break;
                case 2:
                    s.setCharAt(at, signs.charAt(below(signs.length())));
                    break;
                default:
                    int end = at + below(s.length() - at);
                    s.insert(at, s.substring(at, end));
                    break;
            }
        }
        if (s.length() > 320) {
            s.setLength(320);
        }
        tell(s.toString());
        same();
    }

    private void tell(String text) throws ReflectiveOperationException {
        Due.lay(x, text);
        m.tape.setLength(0);
        m.tape.append(text);
        told.append(text).append(" | ");
        ask("text");
        ask("fault");
    }

    // ---- calls

    private void drive() throws ReflectiveOperationException {
        // the model looks through everything: many PEOPLE take it long
        int most = below(50) == 0 ? 6 : below(10) == 0 ? 5 : 4;
        tell(text(most));
        while (x.left() > LOOK) {
            boolean empty = m.m.now.things() == 0 && m.m.hands.isEmpty();
            if (below(empty ? 6 : 60) == 0 && x.left() > LOOK + TOLD) {
                x.end(0);
                tell(text(most));
            } else {
                call(CALLS[below(CALLS.length)].split(" "));
            }
        }
        same();
    }

    private void call(String[] call) throws ReflectiveOperationException {
        if (call[0].equals("text") && below(4) != 0) {
            return;
        }
        Object[] arguments = new Object[call.length - 1];
        for (int i = 0; i < arguments.length; i++) {
            Class<?> type = OURS.get(call[0]).getParameterTypes()[i];
            if (type == boolean.class) {
                arguments[i] = below(3) == 0;
            } else if (type == long.class) {
                arguments[i] = bytes();
            } else {
                arguments[i] = number(call[i + 1]);
            }
        }
        ask(call[0], arguments);
    }

    /** Calls both and compares the answers. */
    private void ask(String name, Object... arguments) throws ReflectiveOperationException {
        int due = (Integer) MODELS.get(name).invoke(m, arguments);
        int got = (Integer) OURS.get(name).invoke(x, arguments);
        told.append(name).append(Arrays.toString(arguments)).append(' ');
        if (due == got) {
            Due.passed++;
        } else {
            Due.is(told.toString(), due, got);
        }
    }

    private long bytes() {
        String some = below(4) == 0 ? "glove 0;hold 3; " : text(4);
        int from = below(some.length() - 8);
        long v = 0;
        for (int i = 0; i < 8; i++) {
            v = v << 8 | some.charAt(from + i);
        }
        return below(20) == 0 ? random.nextLong() : v;
    }

    /** A number as the call takes it; now and then one at its bounds or outside of them. */
    private int number(String kind) {
        int[] bounds = bounds(kind);
        if (below(14) == 0) {
            int[] edges = {bounds[0] - 1, bounds[0], bounds[1], bounds[1] + 1, Integer.MIN_VALUE, Integer.MAX_VALUE,
                random.nextInt()};
            return edges[below(edges.length)];
        }
        int drawn = bounds[0] + (bounds[1] < bounds[0] ? 0 : below(bounds[1] - bounds[0] + 1));
        switch (kind) {
            case "thing":
                for (int i = 0; i < 8 && m.m.now.who(drawn) == 0; i++) {
                    drawn = below(16);
                }
                return drawn;
            case "others":
                return below(2) == 0 ? 0 : drawn & below(1 << m.m.people);
            case "pair":
            case "seat":
                return below(3) == 0 ? 0 : drawn;
            case "days":
                return below(9) == 0 ? drawn : 1 + below(3);
            case "sight":
                int p = below(m.m.people);
                List<Integer> row = m.m.behind(m.m.hands, below(m.m.hands.size() + 1)).rows.get(p);
                return below(6) == 0 ? drawn : PlainModel.bits(row);
            case "ones":
                return below(6) == 0 ? random.nextInt() : below(m.m.people) + (below(9) == 0 ? 256 << 8 * below(3) : 0);
            case "many":
                return m.m.people > 4 ? below(4) : drawn;
            case "size":
                return below(3) == 0 ? drawn : below(9);
            case "cell":
                return below(3) == 0 ? drawn : below(9);
            case "sheet":
            case "lane":
                return below(2) == 0 ? 0 : drawn;
            default:
                return drawn;
        }
    }

    private int[] bounds(String kind) {
        int people = m.m.people;
        switch (kind) {
            case "one":
                return new int[] {0, people - 1};
            case "thing":
                return new int[] {0, 15};
            case "bits":
            case "others":
                return new int[] {0, (1 << people) - 1};
            case "pair":
                return new int[] {10, 13};
            case "seat":
                return new int[] {10, 9 + people};
            case "row":
                return new int[] {0, 9};
            case "tape":
                return new int[] {0, m.tape.length()};
            case "hand":
                return new int[] {0, m.m.hands.size() - 1};
            case "daily":
                return new int[] {0, m.m.daily.size() - 1};
            case "part":
                return new int[] {0, m.m.hands.size()};
            case "join":
                return new int[] {0, m.m.joins.size() - 1};
            case "days":
                return new int[] {1, 99};
            case "sight":
                return new int[] {0, 65535};
            case "many":
                return new int[] {0, 4};
            case "image":
                return new int[] {0, 1};
            case "sheet":
                return new int[] {0, 3};
            case "lane":
                return new int[] {0, 2};
            case "size":
                return new int[] {0, 40};
            case "cell":
                return new int[] {0, 39};
            case "hands":
                return new int[] {0, below(3) == 0 ? 20 : 2};
            case "ones":
                return new int[] {0, people - 1};
            default:
                // "what5": 0 to 5
                return new int[] {0, kind.charAt(kind.length() - 1) - '0'};
        }
    }

    // ---- everything

    private void same() throws ReflectiveOperationException {
        for (int what = 0; what <= 5; what++) {
            ask("rule", what);
            ask("count", what);
        }
        for (int p = 0; p < m.m.people; p++) {
            ask("knows", p);
            for (int i = 0; i <= m.m.now.rows.get(p).size(); i++) {
                ask("row", p, i);
            }
        }
        for (int i = 0; i < m.m.hands.size(); i++) {
            ask("hand", i, false);
        }
        for (int i = 0; i < m.m.daily.size(); i++) {
            ask("hand", i, true);
        }
        for (int j = 0; j < m.m.joins.size(); j++) {
            for (int what = 0; what < 3; what++) {
                ask("join", j, what);
            }
        }
        List<Integer> gloves = new ArrayList<>(m.m.now.gloves);
        for (int p : gloves) {
            ask("glove", p, true);
        }
        ask("fits", 0, 0);
        ask("torn");
        ask("fault");
    }
}
