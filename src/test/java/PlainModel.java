import java.util.ArrayList;
import java.util.Collections;
import java.util.HashMap;
import java.util.LinkedHashSet;
import java.util.List;
import java.util.Map;
import java.util.TreeSet;
import java.util.function.Predicate;

/** The document once more, in lists, by looking through everything: slow, and written apart from the program. */
final class PlainModel {
    private static final int BAD = -1;
    private static final int STATE = -2;
    private static final int NONE = -4;

    /** What happens to ROWS. */
    static final class World {
        List<List<Integer>> rows = new ArrayList<>();
        TreeSet<Integer> gloves = new TreeSet<>();

        World copy() {
            World w = new World();
            for (List<Integer> r : rows) {
                w.rows.add(new ArrayList<>(r));
            }
            w.gloves = new TreeSet<>(gloves);
            return w;
        }

        boolean knows(int p, int thing) {
            return rows.get(p).contains(thing);
        }

        int who(int thing) {
            int bits = 0;
            for (int p = 0; p < rows.size(); p++) {
                bits |= knows(p, thing) ? 1 << p : 0;
            }
            return bits;
        }

        int things() {
            TreeSet<Integer> all = new TreeSet<>();
            rows.forEach(all::addAll);
            return bits(all);
        }
    }

    int people;
    int hold;
    List<int[]> joins;
    List<int[]> hands;
    List<int[]> daily;
    World now;
    Map<Integer, Integer> seen = new HashMap<>();
    Object[][] images = new Object[2][];
    int fault;

    PlainModel() {
        atFirst();
    }

    private void atFirst() {
        people = 3;
        hold = 9;
        joins = new ArrayList<>();
        hands = new ArrayList<>();
        daily = new ArrayList<>();
        now = new World();
        people(3);
    }

    private void people(int n) {
        people = n;
        now.rows.clear();
        for (int p = 0; p < n; p++) {
            now.rows.add(new ArrayList<>());
        }
    }

    static int bits(Iterable<Integer> of) {
        int bits = 0;
        for (int i : of) {
            bits |= 1 << i;
        }
        return bits;
    }

    // ---- the text, by TOKENS cut ahead

    private static final class Token {
        final String is;
        final int place;

        Token(String is, int place) {
            this.is = is;
            this.place = place;
        }

        boolean isNumber() {
            return is.matches("[0-9]{1,2}");
        }
    }

    private static final class Refused extends RuntimeException {
        private static final long serialVersionUID = 1;
        final int fault;
        final int place;

        Refused(int fault, int place) {
            this.fault = fault;
            this.place = place;
        }
    }

    private static List<Token> cut(String text) {
        List<Token> tokens = new ArrayList<>();
        java.util.regex.Matcher m = java.util.regex.Pattern.compile("[a-z]+|[0-9]+|;|[^ ]").matcher(text);
        while (m.find()) {
            tokens.add(new Token(m.group(), m.start()));
        }
        tokens.add(new Token("", text.length()));
        return tokens;
    }

    int text(String text) {
        PlainModel told = new PlainModel();
        fault = 0;
        int lines = 0;
        try {
            lines = told.readAll(cut(text), text.length());
        } catch (Refused r) {
            fault = r.fault;
            return -10 - r.place;
        }
        people = told.people;
        hold = told.hold;
        joins = told.joins;
        hands = told.hands;
        daily = told.daily;
        now = told.now;
        seen.clear();
        images = new Object[2][];
        return lines;
    }

    private List<Token> tokens;
    private int next;

    private Token token() {
        Token t = tokens.get(next++);
        boolean fine = t.is.isEmpty() || t.is.matches("[a-z]+|[0-9]{1,2}|;");
        if (!fine) {
            throw new Refused(1, t.place);
        }
        return t;
    }

    private int number(int low, int high) {
        Token t = token();
        if (!t.isNumber()) {
            throw new Refused(2, t.place);
        }
        return within(t, low, high);
    }

    private static int within(Token t, int low, int high) {
        int v = Integer.parseInt(t.is);
        if (v < low || v > high) {
            throw new Refused(3, t.place);
        }
        return v;
    }

    private void refuseIf(boolean so, int with) {
        if (so) {
            throw new Refused(with, tokens.get(next - 1).place);
        }
    }

    private int readAll(List<Token> of, int length) {
        tokens = of;
        next = 0;
        int lines = 0;
        boolean peopleTold = false;
        boolean holdTold = false;
        Map<Integer, List<Integer>> rows = new HashMap<>();
        LinkedHashSet<Integer> named = new LinkedHashSet<>();
        for (Token t = token(); !t.is.isEmpty(); t = token()) {
            switch (t.is) {
                case "people":
                    refuseIf(peopleTold, 4);
                    peopleTold = true;
                    people(number(2, 6));
                    break;
                case "hold":
                    refuseIf(holdTold, 4);
                    holdTold = true;
                    hold = number(1, 9);
                    break;
                case "knows":
                    int p = number(0, 5);
                    refuseIf(rows.containsKey(p), 4);
                    List<Integer> row = new ArrayList<>();
                    rows.put(p, row);
                    named.add(p);
                    row.add(number(0, 15));
                    while (tokens.get(next).isNumber()) {
                        int thing = within(token(), 0, 15);
                        refuseIf(row.contains(thing), 4);
                        refuseIf(row.size() == 9, 5);
                        row.add(thing);
                    }
                    break;
                case "join":
                    refuseIf(joins.size() == 4, 5);
                    int x = number(0, 15);
                    int y = number(0, 15);
                    refuseIf(x == y, 4);
                    int z = number(0, 15);
                    refuseIf(x == z || y == z, 4);
                    joins.add(new int[] {x, y, z});
                    break;
                case "hand":
                case "daily":
                    List<int[]> list = t.is.equals("hand") ? hands : daily;
                    refuseIf(list.size() == (t.is.equals("hand") ? 16 : 8), 5);
                    int a = number(0, 5);
                    int b = number(0, 5);
                    refuseIf(a == b, 4);
                    list.add(new int[] {Math.min(a, b), Math.max(a, b)});
                    named.add(a);
                    named.add(b);
                    break;
                case "glove":
                    int g = number(0, 5);
                    refuseIf(!now.gloves.add(g), 4);
                    named.add(g);
                    break;
                default:
                    throw new Refused(2, t.place);
            }
            Token sign = token();
            if (!sign.is.equals(";")) {
                throw new Refused(2, sign.place);
            }
            lines++;
        }
        for (int p : named) {
            if (p >= people) {
                throw new Refused(6, length);
            }
        }
        rows.forEach((p, row) -> {
            if (row.size() > hold) {
                throw new Refused(7, length);
            }
            now.rows.set(p, row);
        });
        return lines;
    }

    // ---- a HAND

    boolean shake(World w, int a, int b) {
        if (w.gloves.contains(a) || w.gloves.contains(b)) {
            return false;
        }
        LinkedHashSet<Integer> both = new LinkedHashSet<>(w.rows.get(Math.min(a, b)));
        both.addAll(w.rows.get(Math.max(a, b)));
        List<Integer> row = settled(both);
        w.rows.set(a, row);
        w.rows.set(b, new ArrayList<>(row));
        return true;
    }

    private List<Integer> settled(LinkedHashSet<Integer> row) {
        boolean made = true;
        while (made) {
            made = false;
            for (int[] j : joins) {
                if (row.contains(j[0]) && row.contains(j[1])) {
                    row.remove(j[0]);
                    row.remove(j[1]);
                    row.add(j[2]);
                    made = true;
                    break;
                }
            }
        }
        List<Integer> list = new ArrayList<>(row);
        return new ArrayList<>(list.subList(Math.max(0, list.size() - hold), list.size()));
    }

    int learn(int p, int thing) {
        if (now.knows(p, thing)) {
            return STATE;
        }
        LinkedHashSet<Integer> row = new LinkedHashSet<>(now.rows.get(p));
        row.add(thing);
        now.rows.set(p, settled(row));
        return now.rows.get(p).size();
    }

    int forget(int p, int thing) {
        return now.rows.get(p).remove((Integer) thing) ? now.rows.get(p).size() : NONE;
    }

    World behind(List<int[]> of, int n) {
        World w = now.copy();
        for (int[] h : of.subList(0, n)) {
            shake(w, h[0], h[1]);
        }
        return w;
    }

    int lost(int thing) {
        if (now.who(thing) == 0) {
            return STATE;
        }
        for (int i = 0; i < hands.size(); i++) {
            if (behind(hands, i + 1).who(thing) == 0) {
                return i;
            }
        }
        return NONE;
    }

    int told(int p, int thing) {
        if (now.knows(p, thing)) {
            return STATE;
        }
        for (int i = 0; i < hands.size(); i++) {
            if (behind(hands, i + 1).knows(p, thing)) {
                return i;
            }
        }
        return NONE;
    }

    // ---- the fewest

    static int pair(int a, int b) {
        return Math.max(a, b) * (Math.max(a, b) - 1) / 2 + Math.min(a, b);
    }

    private List<int[]> pairs() {
        List<int[]> all = new ArrayList<>();
        for (int b = 1; b < people; b++) {
            for (int a = 0; a < b; a++) {
                if (!now.gloves.contains(a) && !now.gloves.contains(b)) {
                    all.add(new int[] {a, b});
                }
            }
        }
        return all;
    }

    /** All ways of n HANDS, by PAIRS, whose worlds hold `always`, into `ways` if the last holds `last`. */
    private void ways(World w, int n, List<Integer> path, Predicate<World> always, Predicate<World> last,
            List<List<Integer>> ways) {
        if (!always.test(w)) {
            return;
        }
        if (n == 0) {
            if (last.test(w)) {
                ways.add(new ArrayList<>(path));
            }
            return;
        }
        for (int[] h : pairs()) {
            World v = w.copy();
            shake(v, h[0], h[1]);
            path.add(pair(h[0], h[1]));
            ways(v, n - 1, path, always, last, ways);
            path.remove(path.size() - 1);
        }
    }

    private List<List<Integer>> ways(int n, Predicate<World> always, Predicate<World> last) {
        List<List<Integer>> all = new ArrayList<>();
        ways(now, n, new ArrayList<>(), always, last, all);
        return all;
    }

    int fewest(int thing, int some, int others, int what) {
        for (int n = 0; n <= 4; n++) {
            List<List<Integer>> all = ways(n, w -> (w.who(thing) & others) == 0, w -> (w.who(thing) & some) == some);
            if (!all.isEmpty()) {
                return what == 0 ? n : what - 10 < n ? all.get(0).get(what - 10) : NONE;
            }
        }
        return NONE;
    }

    int lose(int thing) {
        for (int n = 0; n <= 4; n++) {
            if (!ways(n, w -> true, w -> w.who(thing) == 0).isEmpty()) {
                return n;
            }
        }
        return NONE;
    }

    /** All sets of PAIRS of PEOPLE all unlike. */
    private List<List<int[]>> turns() {
        List<int[]> pairs = pairs();
        List<List<int[]>> all = new ArrayList<>();
        for (int set = 0; set < 1 << pairs.size(); set++) {
            if (Integer.bitCount(set) > 3) {
                continue;
            }
            List<int[]> turn = new ArrayList<>();
            int busy = 0;
            boolean unlike = true;
            for (int i = 0; i < pairs.size(); i++) {
                if ((set >> i & 1) != 0) {
                    int two = 1 << pairs.get(i)[0] | 1 << pairs.get(i)[1];
                    unlike &= (busy & two) == 0;
                    busy |= two;
                    turn.add(pairs.get(i));
                }
            }
            if (unlike) {
                all.add(turn);
            }
        }
        return all;
    }

    int rounds(int thing, int some, int others) {
        List<World> worlds = new ArrayList<>();
        worlds.add(now);
        List<List<int[]>> turns = turns();
        for (int n = 0; n <= 2; n++) {
            worlds.removeIf(w -> (w.who(thing) & others) != 0);
            for (World w : worlds) {
                if ((w.who(thing) & some) == some) {
                    return n;
                }
            }
            List<World> next = new ArrayList<>();
            for (World w : worlds) {
                for (List<int[]> turn : turns) {
                    World v = w.copy();
                    for (int[] h : turn) {
                        shake(v, h[0], h[1]);
                    }
                    next.add(v);
                }
            }
            worlds = next;
        }
        return NONE;
    }

    // ---- the habit

    private List<World> nights(int n) {
        List<World> all = new ArrayList<>();
        World w = now;
        all.add(w);
        for (int day = 1; day <= n; day++) {
            w = w.copy();
            for (int[] h : daily) {
                shake(w, h[0], h[1]);
            }
            all.add(w);
        }
        return all;
    }

    int lives(int thing) {
        List<World> nights = nights(200);
        for (int day = 0; day <= 200; day++) {
            if (nights.get(day).who(thing) == 0) {
                return day;
            }
        }
        return NONE;
    }

    int comes(int what) {
        List<World> nights = nights(200);
        for (int day = 0; day <= 200; day++) {
            for (int later = day + 1; later <= 200; later++) {
                if (nights.get(day).rows.equals(nights.get(later).rows)) {
                    return what == 0 ? day : later - day;
                }
            }
        }
        return NONE;
    }

    int days(int n) {
        now = nights(n).get(n);
        return now.things();
    }

    // ---- which hands

    int fits(int n, int what) {
        List<List<Integer>> all = ways(n, w -> true, w -> {
            for (int p : seen.keySet()) {
                if (bits(w.rows.get(p)) != seen.get(p)) {
                    return false;
                }
            }
            return true;
        });
        if (what == 0) {
            return all.size();
        }
        if (all.isEmpty()) {
            return NONE;
        }
        TreeSet<Integer> found = new TreeSet<>(all.get(0));
        for (List<Integer> way : all) {
            if (what == 1) {
                found.retainAll(way);
            } else {
                found.addAll(way);
            }
        }
        return bits(found);
    }

    int least() {
        for (int n = 0; n <= 4; n++) {
            if (fits(n, 0) > 0) {
                return n;
            }
        }
        return NONE;
    }

    // ---- seats, gloves

    private static void rows(List<Integer> of, List<Integer> path, List<List<Integer>> all) {
        if (of.isEmpty()) {
            all.add(new ArrayList<>(path));
        }
        for (Integer p : of) {
            List<Integer> rest = new ArrayList<>(of);
            rest.remove(p);
            path.add(p);
            rows(rest, path, all);
            path.remove(path.size() - 1);
        }
    }

    int seats(int thing, int p, int what) {
        if (now.knows(p, thing)) {
            return STATE;
        }
        List<Integer> all = new ArrayList<>();
        for (int q = 0; q < people; q++) {
            all.add(q);
        }
        List<List<Integer>> rows = new ArrayList<>();
        rows(all, new ArrayList<>(), rows);
        rows.removeIf(row -> {
            World w = now.copy();
            for (int i = 0; i + 1 < people; i++) {
                shake(w, row.get(i), row.get(i + 1));
            }
            return (w.who(thing) & ~now.who(thing)) != 1 << p;
        });
        return what == 0 ? rows.size() : rows.isEmpty() ? NONE : rows.get(0).get(what - 10);
    }

    int gloves(int thing, int p, int what) {
        if (now.knows(p, thing)) {
            return STATE;
        }
        World was = now;
        List<Integer> found = new ArrayList<>();
        for (int set = 0; set < 1 << people; set++) {
            now = was.copy();
            boolean more = true;
            for (int q = 0; q < people; q++) {
                if ((set >> q & 1) != 0) {
                    more &= now.gloves.add(q);
                }
            }
            if (more && !behind(hands, hands.size()).knows(p, thing)) {
                found.add(set);
            }
        }
        now = was;
        if (found.isEmpty()) {
            return NONE;
        }
        Collections.sort(found, (s, t) -> Integer.bitCount(s) != Integer.bitCount(t)
                ? Integer.bitCount(s) - Integer.bitCount(t) : s - t);
        return what == 0 ? Integer.bitCount(found.get(0)) : found.get(0);
    }

    // ---- images

    int keep(int k) {
        int was = images[k] == null ? 0 : 1;
        images[k] = new Object[] {now.copy(), new HashMap<>(seen)};
        return was;
    }

    @SuppressWarnings("unchecked")
    int back(int k) {
        if (images[k] == null) {
            return STATE;
        }
        now = ((World) images[k][0]).copy();
        seen = new HashMap<>((Map<Integer, Integer>) images[k][1]);
        return now.things();
    }
}
