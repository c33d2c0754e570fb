import java.util.ArrayList;
import java.util.List;
import java.util.function.Consumer;
import java.util.function.ToIntFunction;

/**
 * Two objects made alike: one makes a call, the other does not, and then all that can be asked of either must be the
 * same.
 */
final class Twins {
    /** A new object. */
    static final Consumer<Hands> NEW = x -> { };
    /** An object with something of everything. */
    static final Consumer<Hands> RICH = Twins::makeRich;

    /** ONES 0 to 3 with ROWS 7 5, 1, 2, 8; 3 wears GLOVES; all SEEN as they are. */
    private static void makeRich(Hands x) {
        Due.tell(x, "people 4;hold 3;knows 0 7 5;knows 1 1;knows 2 2 9;join 1 2 3;join 4 5 6;"
                + "hand 0 1;hand 2 3;hand 1 2;daily 1 3;daily 0 2;glove 3;");
        x.saw(0, 1 << 7 | 1 << 5);
        x.saw(1, 1 << 1);
        x.keep(0);
        x.learn(3, 8);
        x.saw(3, 1 << 8);
        x.keep(1);
        x.forget(2, 9);
        x.saw(2, 1 << 2);
        lay(x, 0, 0, 0, 1, 2, 1, 0);
        lay(x, 1, 1, 1, 0, 2, 0);
        lay(x, 2, 2);
        x.read(1, 1, 3, 1);
        Due.refuses(x, "glove 0;glove 0;", 4, 14);
        Due.lay(x, "people 5;hold 2;");
    }

    /** A SHEET of a lane with these CELLS. */
    static void lay(Hands x, int k, int lane, int... cells) {
        x.sheet(k, lane, cells.length);
        for (int i = 0; i < cells.length; i++) {
            x.lay(k, i, cells[i]);
        }
    }

    private Twins() {
    }

    static Consumer<Hands> text(String text) {
        return x -> Due.tell(x, text);
    }

    /** That a call answers what is due and changes nothing. */
    static void leaves(Consumer<Hands> making, String name, int due, ToIntFunction<Hands> call) {
        Hands one = made(making);
        Due.is(name, due, call.applyAsInt(one));
        alike(name, one, made(making), true);
    }

    /** That a text has a FAULT at a place and changes nothing but THE TAPE and what fault() answers. */
    static void leavesByText(Consumer<Hands> making, String text, int fault, int place) {
        Hands one = made(making);
        one.end(0);
        Due.refuses(one, text, fault, place);
        Hands other = made(making);
        other.end(0);
        alike("text() of " + text, one, other, false);
    }

    private static Hands made(Consumer<Hands> making) {
        Hands x = new Hands();
        making.accept(x);
        return x;
    }

    private static void alike(String name, Hands one, Hands other, boolean asksFault) {
        List<String> found = all(one, asksFault);
        List<String> due = all(other, asksFault);
        int i = 0;
        while (i < due.size() && i < found.size() && due.get(i).equals(found.get(i))) {
            i++;
        }
        boolean same = i == due.size() && i == found.size();
        Due.holds(name + " changes nothing" + (same ? "" : ", but: " + (i < found.size() ? found.get(i) : "less")), same);
    }

    /** All that can be asked; the object is used up by it. */
    private static List<String> all(Hands x, boolean asksFault) {
        List<String> all = new ArrayList<>();
        if (asksFault) {
            all.add("fault() " + x.fault());
        }
        all.add("torn() " + x.torn());
        for (int what = 0; what <= 5; what++) {
            all.add("count(" + what + ") " + x.count(what));
        }
        rules(x, all);
        minds(x, all);
        for (int k = 0; k < 2; k++) {
            all.add("back(" + k + ") " + x.back(k));
            minds(x, all);
        }
        for (int k = 0; k < 4; k++) {
            sheet(x, k, all);
        }
        all.add("text() " + x.text());
        all.add("fault() of THE TAPE " + x.fault());
        rules(x, all);
        rows(x, all);
        return all;
    }

    private static void rules(Hands x, List<String> all) {
        for (int what = 0; what <= 5; what++) {
            all.add("rule(" + what + ") " + x.rule(what));
        }
        for (int i = 0; i < x.rule(3); i++) {
            all.add("hand(" + i + ") " + x.hand(i, false));
        }
        for (int i = 0; i < x.rule(4); i++) {
            all.add("daily(" + i + ") " + x.hand(i, true));
        }
        for (int j = 0; j < x.rule(2); j++) {
            all.add("join(" + j + ") " + x.join(j, 0) + " " + x.join(j, 1) + " " + x.join(j, 2));
        }
    }

    private static void rows(Hands x, List<String> all) {
        for (int p = 0; p < x.rule(0); p++) {
            StringBuilder row = new StringBuilder("row of " + p + ", " + x.knows(p) + ":");
            int thing = x.row(p, 0);
            for (int i = 1; thing >= 0; i++) {
                row.append(' ').append(thing);
                thing = x.row(p, i);
            }
            all.add(row.toString());
        }
    }

    private static void minds(Hands x, List<String> all) {
        rows(x, all);
        all.add("SEEN " + x.count(2) + " " + x.least() + " " + x.fits(0, 0) + " " + x.fits(1, 0) + " " + x.fits(1, 2)
                + " " + x.fits(2, 1) + " " + x.fits(2, 2));
        for (int p = 0; p < x.rule(0); p++) {
            int did = x.glove(p, true);
            if (did == 0) {
                x.glove(p, false);
            }
            all.add("glove(" + p + ") " + did);
        }
    }

    private static void sheet(Hands x, int k, List<String> all) {
        int lane = 0;
        for (int as = 0; as < 3; as++) {
            x.read(k, as, -1, 1);
            int torn = x.torn();
            all.add("SHEET " + k + " as of lane " + as + " " + torn);
            lane = torn == 2 ? as : lane;
        }
        int torn = 0;
        for (int f = 0; f < 40 && torn == 0; f++) {
            int came = x.read(k, lane, f, 1);
            torn = came < 0 ? 0 : x.torn();
            all.add("SHEET " + k + " from CELL " + f + " " + came + " " + torn);
        }
        rows(x, all);
    }
}
