import java.util.ArrayList;
import java.util.Arrays;
import java.util.List;
import java.util.TreeSet;

/** The face once more over PlainModel: the bounds of each call by the document's words. */
final class PlainFace {
    private static final int BAD = -1;
    private static final int FULL = -3;
    private static final int NONE = -4;

    final PlainModel m = new PlainModel();
    final StringBuilder tape = new StringBuilder();
    private final int[][] cells = new int[4][];
    private final int[] lanes = new int[4];
    private int torn;

    private static boolean within(long v, long low, long high) {
        return v >= low && v <= high;
    }

    private boolean one(int p) {
        return within(p, 0, m.people - 1);
    }

    private static boolean thing(int t) {
        return within(t, 0, 15);
    }

    private boolean bits(int b) {
        return within(b, 0, (1 << m.people) - 1);
    }

    // ---- the text

    int feed(long v) {
        if (tape.length() + 8 > 320) {
            return FULL;
        }
        for (int shift = 56; shift >= 0; shift -= 8) {
            tape.append((char) (v >> shift & 255));
        }
        return tape.length();
    }

    int end(int n) {
        if (!within(n, 0, tape.length())) {
            return BAD;
        }
        int had = tape.length();
        tape.setLength(n);
        return had;
    }

    int text() {
        String told = tape.toString();
        tape.setLength(0);
        return m.text(told);
    }

    int fault() {
        return m.fault;
    }

    int rule(int what) {
        int[] all = {m.people, m.hold, m.joins.size(), m.hands.size(), m.daily.size(), m.now.gloves.size()};
        return within(what, 0, 5) ? all[what] : BAD;
    }

    int hand(int i, boolean daily) {
        List<int[]> of = daily ? m.daily : m.hands;
        return within(i, 0, of.size() - 1) ? PlainModel.pair(of.get(i)[0], of.get(i)[1]) : BAD;
    }

    int join(int j, int what) {
        return within(j, 0, m.joins.size() - 1) && within(what, 0, 2) ? m.joins.get(j)[what] : BAD;
    }

    // ---- who knows what

    int knows(int p) {
        return one(p) ? PlainModel.bits(m.now.rows.get(p)) : BAD;
    }

    int row(int p, int i) {
        if (!one(p) || i < 0) {
            return BAD;
        }
        return i < m.now.rows.get(p).size() ? m.now.rows.get(p).get(i) : NONE;
    }

    int who(int thing) {
        return thing(thing) ? m.now.who(thing) : BAD;
    }

    int learn(int p, int thing) {
        return one(p) && thing(thing) ? m.learn(p, thing) : BAD;
    }

    int forget(int p, int thing) {
        return one(p) && thing(thing) ? m.forget(p, thing) : BAD;
    }

    int glove(int p, boolean is) {
        if (!one(p)) {
            return BAD;
        }
        boolean did = is ? !m.now.gloves.add(p) : m.now.gloves.remove(p);
        return did ? 1 : 0;
    }

    int shake(int a, int b) {
        if (!one(a) || !one(b) || a == b) {
            return BAD;
        }
        return m.shake(m.now, a, b) ? m.now.rows.get(a).size() : NONE;
    }

    // ---- the feast

    int feast(int n) {
        if (!within(n, 0, m.hands.size())) {
            return BAD;
        }
        int before = m.now.things();
        m.now = m.behind(m.hands, n);
        return before & ~m.now.things();
    }

    int after(int n, int p) {
        boolean fine = within(n, 0, m.hands.size()) && one(p);
        return fine ? PlainModel.bits(m.behind(m.hands, n).rows.get(p)) : BAD;
    }

    int lost(int thing) {
        return thing(thing) ? m.lost(thing) : BAD;
    }

    int told(int p, int thing) {
        return one(p) && thing(thing) ? m.told(p, thing) : BAD;
    }

    // ---- the fewest

    int fewest(int thing, int some, int others, int what) {
        boolean fine = thing(thing) && bits(some) && bits(others) && (what == 0 || within(what, 10, 13));
        return fine ? m.fewest(thing, some, others, what) : BAD;
    }

    int rounds(int thing, int some, int others) {
        return thing(thing) && bits(some) && bits(others) ? m.rounds(thing, some, others) : BAD;
    }

    int lose(int thing) {
        return thing(thing) ? m.lose(thing) : BAD;
    }

    // ---- the habit

    int lives(int thing) {
        return thing(thing) ? m.lives(thing) : BAD;
    }

    int comes(int what) {
        return within(what, 0, 1) ? m.comes(what) : BAD;
    }

    int days(int n) {
        return within(n, 1, 99) ? m.days(n) : BAD;
    }

    // ---- which hands

    int saw(int p, int things) {
        if (!one(p) || !within(things, 0, 65535)) {
            return BAD;
        }
        m.seen.put(p, things);
        return m.seen.size();
    }

    int blind() {
        int were = m.seen.size();
        m.seen.clear();
        return were;
    }

    int fits(int n, int what) {
        return within(n, 0, 4) && within(what, 0, 2) ? m.fits(n, what) : BAD;
    }

    int least() {
        return m.least();
    }

    // ---- seats, gloves

    int seats(int thing, int p, int what) {
        boolean fine = thing(thing) && one(p) && (what == 0 || within(what, 10, 9L + m.people));
        return fine ? m.seats(thing, p, what) : BAD;
    }

    int gloves(int thing, int p, int what) {
        return thing(thing) && one(p) && within(what, 0, 1) ? m.gloves(thing, p, what) : BAD;
    }

    // ---- images, sheets

    int keep(int k) {
        return within(k, 0, 1) ? m.keep(k) : BAD;
    }

    int back(int k) {
        return within(k, 0, 1) ? m.back(k) : BAD;
    }

    int sheet(int k, int lane, int n) {
        if (!within(k, 0, 3) || !within(lane, 0, 2) || n > 40) {
            return BAD;
        }
        if (n < 0) {
            return -14;
        }
        cells[k] = new int[n];
        lanes[k] = lane;
        return 1;
    }

    int lay(int k, int i, int v) {
        if (!within(k, 0, 3)) {
            return BAD;
        }
        if (cells[k] == null) {
            return -11;
        }
        if (!within(i, 0, cells[k].length - 1)) {
            return -12;
        }
        int width = 8 << lanes[k];
        cells[k][i] = v << 32 - width >> 32 - width;
        return 1;
    }

    int read(int k, int lane, int f, int n) {
        if (!within(k, 0, 3) || !within(lane, 0, 2) || !within(n, 0, 20)) {
            return BAD;
        }
        List<int[]> came = new ArrayList<>();
        int fault = 0;
        while (came.size() < n && fault == 0) {
            long at = f + 2L * came.size();
            if (cells[k] == null) {
                fault = 1;
            } else if (lanes[k] != lane) {
                fault = 3;
            } else if (at < 0 || at + 1 >= cells[k].length) {
                fault = 2;
            } else {
                int a = cells[k][(int) at];
                int b = cells[k][(int) at + 1];
                if (!one(a) || !one(b) || a == b) {
                    return -20 - came.size();
                }
                came.add(new int[] {a, b});
            }
        }
        for (int[] two : came) {
            m.shake(m.now, two[0], two[1]);
        }
        torn = fault;
        return came.size();
    }

    int torn() {
        return torn;
    }

    int count(int what) {
        if (!within(what, 0, 5)) {
            return BAD;
        }
        TreeSet<Integer> all = new TreeSet<>(m.now.rows.get(0));
        m.now.rows.forEach(all::retainAll);
        int images = (int) Arrays.stream(m.images).filter(image -> image != null).count();
        int[] many = {Integer.bitCount(m.now.things()), all.size(), m.seen.size(), images, tape.length(),
            cells[0] == null ? NONE : cells[0].length};
        return many[what];
    }
}
