import java.util.Random;

/** The program against PlainModel, by runs of calls drawn from fixed seeds. */
final class ModelTests {
    private static final int RUNS = 1000;
    private static final int TEXTS = 20000;

    private final Random random;
    private final ShakeHands x = new ShakeHands();
    private final PlainModel m = new PlainModel();
    private final StringBuilder told = new StringBuilder();

    private ModelTests(long seed) {
        random = new Random(seed);
    }

    static void run() {
        for (int seed = 0; seed < RUNS; seed++) {
            new ModelTests(seed).drive();
        }
        ModelTests texts = new ModelTests(77);
        for (int i = 0; i < TEXTS; i++) {
            texts.faultyText();
        }
    }

    private int below(int n) {
        return random.nextInt(n);
    }

    private String text(int mostPeople) {
        int people = 2 + below(mostPeople - 1);
        int hold = 1 + below(below(2) == 0 ? 9 : 3);
        int things = 2 + below(15);
        StringBuilder s = new StringBuilder();
        s.append("people ").append(people).append(";hold ").append(hold).append(';');
        for (int p = 0; p < people; p++) {
            if (below(4) != 0) {
                s.append("knows ").append(p);
                int seen = 0;
                int n = 1 + below(hold);
                for (int i = 0; i < n; i++) {
                    int thing = below(things);
                    if ((seen >> thing & 1) == 0) {
                        s.append(' ').append(thing);
                        seen |= 1 << thing;
                    }
                }
                s.append(';');
            }
            if (below(9) == 0) {
                s.append("glove ").append(p).append(';');
            }
        }
        for (int j = below(5); j > 0 && things > 2; j--) {
            int a = below(things);
            int b = below(things);
            int c = below(things);
            if (a != b && b != c && a != c) {
                s.append("join " + a + " " + b + " " + c + ";");
            }
        }
        pairs(s, "hand", people, below(below(3) == 0 ? 17 : 8));
        pairs(s, "daily", people, below(below(2) == 0 ? 9 : 5));
        return s.length() <= 320 ? s.toString() : s.substring(0, s.lastIndexOf(";", 319) + 1);
    }

    private void pairs(StringBuilder s, String name, int people, int n) {
        for (int i = 0; i < n; i++) {
            int a = below(people);
            int b = (a + 1 + below(people - 1)) % people;
            s.append(name + " " + a + " " + b + ";");
        }
    }

    /** A text with some bytes changed, mostly to a FAULT. */
    private void faultyText() {
        StringBuilder s = new StringBuilder(text(6));
        String signs = " ;0123456789az#knowspeople";
        for (int i = below(4); i > 0 && s.length() > 0; i--) {
            int at = below(s.length());
            switch (below(4)) {
                case 0:
                    s.deleteCharAt(at);
                    break;
                case 1:
                    s.insert(at, signs.charAt(below(signs.length())));
                    break;
                case 2:
                    s.setCharAt(at, signs.charAt(below(signs.length())));
                    break;
                default:
                    int end = at + below(s.length() - at);
                    s.insert(at, s.substring(at, end));
                    break;
            }
        }
        if (s.length() > 320) {
            s.setLength(320);
        }
        tell(s.toString());
        same();
    }

    private void tell(String text) {
        told.setLength(0);
        told.append(text).append(" | ");
        Due.lay(x, text);
        is("text()", m.text(text), x.text());
        is("fault()", m.fault, x.fault());
    }

    private void is(String call, int want, int got) {
        if (want != got) {
            Due.is(told + call, want, got);
        } else {
            Due.passed++;
        }
    }

    private void same() {
        is("rule(0)", m.people, x.rule(0));
        is("rule(1)", m.hold, x.rule(1));
        is("rule(2)", m.joins.size(), x.rule(2));
        is("rule(3)", m.hands.size(), x.rule(3));
        is("rule(4)", m.daily.size(), x.rule(4));
        is("rule(5)", m.now.gloves.size(), x.rule(5));
        for (int p = 0; p < m.people; p++) {
            is("knows", PlainModel.bits(m.now.rows.get(p)), x.knows(p));
            for (int i = 0; i <= 9; i++) {
                int due = i < m.now.rows.get(p).size() ? m.now.rows.get(p).get(i) : ShakeHands.NONE;
                is("row", due, x.row(p, i));
            }
        }
        for (int i = 0; i < m.hands.size(); i++) {
            is("hand", PlainModel.pair(m.hands.get(i)[0], m.hands.get(i)[1]), x.hand(i, false));
        }
        for (int i = 0; i < m.daily.size(); i++) {
            is("daily", PlainModel.pair(m.daily.get(i)[0], m.daily.get(i)[1]), x.hand(i, true));
        }
        for (int j = 0; j < m.joins.size(); j++) {
            for (int what = 0; what < 3; what++) {
                is("join", m.joins.get(j)[what], x.join(j, what));
            }
        }
        is("count(0)", Integer.bitCount(m.now.things()), x.count(0));
        is("count(2)", m.seen.size(), x.count(2));
    }

    private void drive() {
        // the model looks through everything: many PEOPLE take it long
        tell(text(below(60) == 0 ? 6 : below(10) == 0 ? 5 : 4));
        same();
        for (int i = 0; i < 60; i++) {
            call();
            same();
        }
    }

    /** A THING, mostly one that somebody knows. */
    private int thing() {
        int thing = below(16);
        for (int i = 0; i < 8 && m.now.who(thing) == 0; i++) {
            thing = below(16);
        }
        return thing;
    }

    private void call() {
        int p = below(m.people);
        int q = (p + 1 + below(m.people - 1)) % m.people;
        int thing = thing();
        int some = below(1 << m.people);
        int others = below(2) == 0 ? 0 : below(1 << m.people) & ~some;
        int what = below(2);
        told.append(p + "," + q + "," + thing + "," + some + "," + others + "," + what + " ");
        switch (below(26)) {
            case 0:
                is("learn", m.learn(p, thing), x.learn(p, thing));
                break;
            case 1:
                is("forget", m.forget(p, thing), x.forget(p, thing));
                break;
            case 2:
                boolean is = below(4) == 0;
                boolean did = is ? !m.now.gloves.add(p) : m.now.gloves.remove(p);
                is("glove", did ? 1 : 0, x.glove(p, is));
                break;
            case 3:
                boolean shaken = m.shake(m.now, p, q);
                is("shake", shaken ? m.now.rows.get(p).size() : ShakeHands.NONE, x.shake(p, q));
                break;
            case 4:
                int n = below(m.hands.size() + 1);
                int before = m.now.things();
                if (below(3) == 0) {
                    m.now = m.behind(m.hands, n);
                    is("feast", before & ~m.now.things(), x.feast(n));
                }
                break;
            case 5:
                int part = below(m.hands.size() + 1);
                is("after", PlainModel.bits(m.behind(m.hands, part).rows.get(p)), x.after(part, p));
                break;
            case 6:
            case 7:
                is("lost", m.lost(thing), x.lost(thing));
                is("told", m.told(p, thing), x.told(p, thing));
                break;
            case 8:
                is("fewest", m.fewest(thing, some, others, 0), x.fewest(thing, some, others, 0));
                for (int i = 10; i < 14; i++) {
                    is("fewest " + i, m.fewest(thing, some, others, i), x.fewest(thing, some, others, i));
                }
                break;
            case 9:
            case 10:
                is("rounds", m.rounds(thing, some, others), x.rounds(thing, some, others));
                break;
            case 11:
                is("lose", m.lose(thing), x.lose(thing));
                break;
            case 12:
            case 13:
                is("lives", m.lives(thing), x.lives(thing));
                break;
            case 14:
            case 15:
                is("comes", m.comes(what), x.comes(what));
                break;
            case 16:
                int days = 1 + below(3);
                is("days", m.days(days), x.days(days));
                break;
            case 17:
            case 18:
                int sight = below(4) == 0 ? below(65536) : PlainModel.bits(m.behind(m.hands, m.hands.size()).rows.get(p));
                m.seen.put(p, sight);
                is("saw", m.seen.size(), x.saw(p, sight));
                break;
            case 19:
                is("blind", m.seen.size(), x.blind());
                m.seen.clear();
                break;
            case 20:
                int hands = below(4);
                for (int i = 0; i < 3; i++) {
                    is("fits " + hands, m.fits(hands, i), x.fits(hands, i));
                }
                break;
            case 21:
                is("least", m.least(), x.least());
                break;
            case 22:
                is("seats", m.seats(thing, p, 0), x.seats(thing, p, 0));
                for (int i = 0; i < m.people; i++) {
                    is("seats " + i, m.seats(thing, p, 10 + i), x.seats(thing, p, 10 + i));
                }
                break;
            case 23:
                is("gloves", m.gloves(thing, p, what), x.gloves(thing, p, what));
                break;
            case 24:
                is("keep", m.keep(what), x.keep(what));
                break;
            default:
                is("back", m.back(what), x.back(what));
                break;
        }
    }
}
