import java.util.ArrayList;
import java.util.List;
import java.util.Random;
import java.util.function.Consumer;

/** What the document begins with: each part of it by what the calls answer together, for stories drawn from fixed seeds. */
final class StoryTests {
    private static final int STORIES = 60;
    private static final int NONE = ShakeHands.NONE;

    private StoryTests() {
    }

    static void run() {
        each("Two who shake hands know the same:", StoryTests::same);
        each("people who hold so many things, the eldest fall out;", StoryTests::eldest);
        each("hands shaken in order,", StoryTests::inOrder);
        each("gloves through which nothing goes,", StoryTests::throughGloves);
        each("things that become one;", StoryTests::become);
        each("a feast hand by hand: who knows what, what nobody knows any more;", StoryTests::handByHand);
        each("the fewest hands by which told ones know a thing and told ones never do,", StoryTests::fewest);
        each("the fewest rounds, if many shake at once;", StoryTests::rounds);
        each("a habit that goes on: how long a thing lives,", StoryTests::lives);
        each("when all comes back;", StoryTests::comesBack);
        each("which hands can have been, which must, by what each knows at night;", StoryTests::whichHands);
        each("seats in a row so that a thing comes from here to there and no further;", StoryTests::seats);
        each("the fewest gloves behind which one does not know it;", StoryTests::fewestGloves);
        each("images;", StoryTests::images);
        each("all told in a text, hands read from sheets whose faults the machine finds.", StoryTests::fromSheets);
    }

    private static void each(String words, Consumer<Random> story) {
        Sentence.says(Sentence.TERMS, words, () -> {
            for (int seed = 0; seed < STORIES; seed++) {
                story.accept(new Random(seed));
            }
        });
    }

    // ---- stories

    private static String drawn(Random random) {
        int people = 2 + random.nextInt(5);
        int hold = 1 + random.nextInt(9);
        int things = 4 + random.nextInt(13);
        StringBuilder text = new StringBuilder("people " + people + ";hold " + hold + ";");
        for (int p = 0; p < people; p++) {
            StringBuilder row = new StringBuilder();
            int first = random.nextInt(things);
            // steps by which four THINGS are unlike
            int step = things % 3 == 0 ? 1 : 3;
            for (int n = random.nextInt(Math.min(hold, 4) + 1); n > 0; n--) {
                row.append(' ').append((first + step * n) % things);
            }
            text.append(row.length() == 0 ? "" : "knows " + p + row + ";");
            text.append(random.nextInt(9) == 0 ? "glove " + p + ";" : "");
        }
        for (int n = random.nextInt(4); n > 0; n--) {
            int x = random.nextInt(things);
            text.append("join " + x + " " + (x + 1) % things + " " + (x + 2) % things + ";");
        }
        for (int n = 12; n > 0; n--) {
            int a = random.nextInt(people);
            text.append(n % 3 == 0 ? "daily " : "hand ").append(a).append(' ');
            text.append((a + 1 + random.nextInt(people - 1)) % people).append(';');
        }
        return text.substring(0, text.lastIndexOf(";", 319) + 1);
    }

    private static int lesser(int pair) {
        return pair - greater(pair) * (greater(pair) - 1) / 2;
    }

    private static int greater(int pair) {
        int b = 1;
        while (b * (b + 1) / 2 <= pair) {
            b++;
        }
        return b;
    }

    private static List<Integer> row(Hands x, int p) {
        List<Integer> row = new ArrayList<>();
        for (int i = 0; i < 9 && x.row(p, i) >= 0; i++) {
            row.add(x.row(p, i));
        }
        return row;
    }

    private static List<List<Integer>> rows(Hands x) {
        List<List<Integer>> rows = new ArrayList<>();
        int people = x.rule(0);
        for (int p = 0; p < people; p++) {
            rows.add(row(x, p));
        }
        return rows;
    }

    private static boolean isBit(int bits, int i) {
        return (bits >> i & 1) != 0;
    }

    /** A ONE who does not know a THING; or -1 if the one drawn does. */
    private static int stranger(Hands x, Random random, int thing) {
        int p = random.nextInt(x.rule(0));
        return isBit(x.who(thing), p) ? -1 : p;
    }

    // ---- what is held together

    private static void same(Random random) {
        String text = drawn(random);
        int people = Due.told(text).rule(0);
        for (int a = 0; a < people; a++) {
            for (int b = 0; b < people; b++) {
                Hands x = Due.told(text);
                List<List<Integer>> ahead = rows(x);
                int both = a == b ? 0 : x.shake(a, b);
                List<List<Integer>> behind = rows(x);
                if (both != NONE && a != b) {
                    Due.is("how many", both, behind.get(a).size());
                    Due.holds("the same", behind.get(a).equals(behind.get(b)));
                    ahead.set(a, behind.get(a));
                    ahead.set(b, behind.get(b));
                }
                Due.holds("nobody else", ahead.equals(behind));
            }
        }
    }

    private static void eldest(Random random) {
        int hold = 1 + random.nextInt(9);
        Hands x = Due.told("hold " + hold + ";");
        List<Integer> learnt = new ArrayList<>();
        for (int i = 0; i < 40; i++) {
            int thing = random.nextInt(16);
            if (!learnt.contains(thing)) {
                learnt.add(thing);
                if (learnt.size() > hold) {
                    learnt.remove(0);
                }
                Due.is("learn", learnt.size(), x.learn(1, thing));
            }
        }
        Due.holds("the latest", learnt.equals(row(x, 1)));
    }

    private static void inOrder(Random random) {
        String text = drawn(random);
        Hands x = Due.told(text);
        int hands = x.rule(3);
        x.feast(hands);
        Hands single = Due.told(text);
        for (int i = 0; i < hands; i++) {
            int pair = single.hand(i, false);
            single.shake(lesser(pair), greater(pair));
        }
        Due.holds("one behind another", rows(x).equals(rows(single)));
        Hands days = Due.told(text);
        days.days(2);
        single = Due.told(text);
        for (int i = 0; i < 2 * single.rule(4); i++) {
            int pair = single.hand(i % single.rule(4), true);
            single.shake(greater(pair), lesser(pair));
        }
        Due.holds("DAILY ones, too", rows(days).equals(rows(single)));
    }

    private static void throughGloves(Random random) {
        Hands x = Due.told(drawn(random));
        int p = random.nextInt(x.rule(0));
        x.glove(p, true);
        List<Integer> ahead = row(x, p);
        x.feast(x.rule(3));
        x.days(9);
        Due.holds("nothing comes to him", ahead.equals(row(x, p)));
        Hands alone = Due.told("knows 0 1;hand 0 1;hand 2 0;daily 1 2;glove 0;");
        alone.feast(2);
        alone.days(9);
        Due.is("nothing comes of him", 1, alone.who(1));
    }

    private static void become(Random random) {
        Hands x = Due.told(drawn(random));
        for (int i = 0; i < x.rule(3); i++) {
            int pair = x.hand(i, false);
            if (x.shake(lesser(pair), greater(pair)) != NONE) {
                int knows = x.knows(lesser(pair));
                for (int j = 0; j < x.rule(2); j++) {
                    Due.holds("both are not left", !isBit(knows, x.join(j, 0)) || !isBit(knows, x.join(j, 1)));
                }
            }
        }
    }

    private static void handByHand(Random random) {
        String text = drawn(random);
        Hands asked = Due.told(text);
        int hands = asked.rule(3);
        int p = random.nextInt(asked.rule(0));
        int thing = random.nextInt(16);
        boolean knew = isBit(asked.knows(p), thing);
        boolean was = asked.who(thing) != 0;
        int told = knew ? ShakeHands.STATE : NONE;
        int lost = was ? NONE : ShakeHands.STATE;
        for (int n = 0; n <= hands; n++) {
            Hands x = Due.told(text);
            int gone = x.feast(n);
            Due.is("after(" + n + ", " + p + ")", x.knows(p), asked.after(n, p));
            Due.is("feast(" + n + ")", known(Due.told(text)) & ~known(x), gone);
            told = told == NONE && isBit(x.knows(p), thing) ? n - 1 : told;
            lost = lost == NONE && x.who(thing) == 0 ? n - 1 : lost;
        }
        Due.is("told", told, asked.told(p, thing));
        Due.is("lost", lost, asked.lost(thing));
    }

    /** THINGS that somebody knows. */
    private static int known(Hands x) {
        int bits = 0;
        for (int p = 0; p < x.rule(0); p++) {
            bits |= x.knows(p);
        }
        return bits;
    }

    private static void fewest(Random random) {
        Hands x = Due.told(drawn(random));
        int all = (1 << x.rule(0)) - 1;
        for (int n = 0; n < 8; n++) {
            int thing = random.nextInt(16);
            int some = random.nextInt(all + 1);
            int others = random.nextInt(all + 1) & ~some & random.nextInt(all + 1);
            x.keep(0);
            walk(x, thing, some, others);
            x.back(0);
        }
    }

    /** Shakes the fewest HANDS one by one: at each there is one less to come, and those to come stay the same. */
    private static void walk(Hands x, int thing, int some, int others) {
        int left = x.fewest(thing, some, others, 0);
        int[] path = new int[4];
        for (int i = 0; i < 4; i++) {
            path[i] = x.fewest(thing, some, others, 10 + i);
            Due.holds("a HAND or none", i < left ? path[i] >= 0 : path[i] == NONE);
        }
        for (int i = 0; i < left; i++) {
            Due.is("others do not know it", 0, x.who(thing) & others);
            Due.is("HANDS left", left - i, x.fewest(thing, some, others, 0));
            Due.is("the next HAND", path[i], x.fewest(thing, some, others, 10));
            Due.holds("without GLOVES", x.shake(lesser(path[i]), greater(path[i])) != NONE);
        }
        if (left >= 0) {
            Due.is("some know it", some, x.who(thing) & some);
            Due.is("others do not know it", 0, x.who(thing) & others);
            Due.is("no HAND left", 0, x.fewest(thing, some, others, 0));
        }
    }

    private static void rounds(Random random) {
        Hands x = Due.told(drawn(random));
        int all = (1 << x.rule(0)) - 1;
        for (int n = 0; n < 20; n++) {
            int thing = random.nextInt(16);
            int some = random.nextInt(all + 1) & random.nextInt(all + 1);
            int others = random.nextInt(all + 1) & ~some & random.nextInt(all + 1);
            int hands = x.fewest(thing, some, others, 0);
            int rounds = x.rounds(thing, some, others);
            // one HAND is a ROUND; in a ROUND there are no more than three
            Due.is("without a HAND", hands == 0 ? 1 : 0, rounds == 0 ? 1 : 0);
            Due.holds("of one or two HANDS", hands < 1 || hands > 2 || rounds >= 1 && rounds <= hands);
            Due.holds("of no HANDS at all", rounds != 1 || hands == NONE || hands <= 3);
        }
        // many at once: as many PEOPLE as there are know it twice as soon
        int two = Due.told("people 4;knows 0 1;knows 1 1;").rounds(1, 15, 0);
        Due.is("many at once", 1, two);
    }

    private static void lives(Random random) {
        String text = drawn(random);
        Hands asked = Due.told(text);
        int thing = random.nextInt(16);
        int day = asked.lives(thing);
        Hands x = Due.told(text);
        for (int n = 0; n < (day == NONE ? 200 : day); n++) {
            Due.holds("it lives on DAY " + n, x.who(thing) != 0);
            x.days(1);
        }
        Due.holds("it is gone on DAY " + day, day == NONE ? x.who(thing) != 0 : x.who(thing) == 0);
    }

    private static void comesBack(Random random) {
        String text = drawn(random);
        Hands asked = Due.told(text);
        int day = asked.comes(0);
        int turn = asked.comes(1);
        List<List<List<Integer>>> nights = new ArrayList<>();
        for (int n = 0; day != NONE && n <= day + turn; n++) {
            nights.add(rows(behind(text, n)));
            Due.is("it comes back on DAY " + n, n < day + turn ? n : day, nights.indexOf(nights.get(n)));
        }
        Due.is("both or none", day == NONE ? 1 : 0, turn == NONE ? 1 : 0);
    }

    private static Hands behind(String text, int days) {
        Hands x = Due.told(text);
        for (int left = days; left > 0; left -= 99) {
            x.days(Math.min(left, 99));
        }
        return x;
    }

    private static void whichHands(Random random) {
        String text = drawn(random);
        Hands x = Due.told(text);
        int people = x.rule(0);
        int used = 0;
        int shaken = 0;
        for (int n = random.nextInt(5); n > 0; n--) {
            int a = random.nextInt(people);
            int b = (a + 1 + random.nextInt(people - 1)) % people;
            if (x.shake(a, b) != NONE) {
                int greater = Math.max(a, b);
                used |= 1 << greater * (greater - 1) / 2 + Math.min(a, b);
                shaken++;
            }
        }
        Hands night = Due.told(text);
        for (int p = 0; p < people; p++) {
            Due.is("saw", p + 1, night.saw(p, x.knows(p)));
        }
        Due.holds("they can have been", night.fits(shaken, 0) >= 1);
        Due.is("each of them can", used, night.fits(shaken, 2) & used);
        Due.is("who must was among them", night.fits(shaken, 1), night.fits(shaken, 1) & used);
        int least = night.least();
        Due.holds("no more are needed", least >= 0 && least <= shaken);
        for (int n = 0; n <= 4; n++) {
            Due.holds("fits(" + n + ", 0)", n < least ? night.fits(n, 0) == 0 : n > least || night.fits(n, 0) > 0);
            Due.is("none, or bits", night.fits(n, 0) == 0 ? 1 : 0, night.fits(n, 1) == NONE ? 1 : 0);
            Due.is("none, or bits", night.fits(n, 0) == 0 ? 1 : 0, night.fits(n, 2) == NONE ? 1 : 0);
        }
    }

    private static void seats(Random random) {
        Hands x = Due.told(drawn(random));
        int people = x.rule(0);
        x.keep(1);
        for (int thing = 0; thing < 16; thing++) {
            int p = stranger(x, random, thing);
            if (p >= 0) {
                int knew = x.who(thing);
                int ways = x.seats(thing, p, 0);
                int sat = 0;
                int[] row = new int[people];
                for (int i = 0; i < people; i++) {
                    row[i] = x.seats(thing, p, 10 + i);
                    Due.holds("a ONE or none", ways == 0 ? row[i] == NONE : row[i] >= 0 && row[i] < people);
                    sat |= ways == 0 ? 0 : 1 << row[i];
                }
                Due.is("each sits", ways == 0 ? 0 : (1 << people) - 1, sat);
                for (int i = 0; ways > 0 && i < people - 1; i++) {
                    x.shake(row[i], row[i + 1]);
                }
                Due.is("to there and no further", ways > 0 ? 1 << p : 0, x.who(thing) & ~knew);
                x.back(1);
            }
        }
    }

    private static void fewestGloves(Random random) {
        Hands x = Due.told(drawn(random));
        int people = x.rule(0);
        x.keep(0);
        for (int thing = 0; thing < 16; thing++) {
            int p = stranger(x, random, thing);
            if (p >= 0) {
                int many = x.gloves(thing, p, 0);
                int these = x.gloves(thing, p, 1);
                Due.is("how many these are", many, Integer.bitCount(these));
                boolean comes = isBit(x.after(x.rule(3), p), thing);
                Due.is("none are needed", comes ? 0 : 1, many == 0 ? 1 : 0);
                for (int other = 0; other < people; other++) {
                    if (isBit(these, other)) {
                        Due.is("besides those who do", 0, x.glove(other, true));
                    }
                }
                x.feast(x.rule(3));
                Due.holds("behind which he does not know it", !isBit(x.knows(p), thing));
                x.back(0);
            }
        }
    }

    private static void images(Random random) {
        String text = drawn(random);
        Hands x = Due.told(text);
        x.saw(1, 5);
        List<List<Integer>> first = rows(x);
        int gloves = x.rule(5);
        x.keep(0);
        x.feast(x.rule(3));
        x.glove(0, true);
        x.saw(0, 9);
        List<List<Integer>> second = rows(x);
        x.keep(1);
        x.days(3);
        x.blind();
        x.back(1);
        Due.holds("the second", second.equals(rows(x)));
        Due.is("two were SEEN", 2, x.count(2));
        Due.is("he wears GLOVES", 1, x.glove(0, false));
        x.back(0);
        Due.holds("the first", first.equals(rows(x)));
        Due.is("one was SEEN", 1, x.count(2));
        Due.is("as many GLOVES", gloves, x.rule(5));
    }

    private static void fromSheets(Random random) {
        String text = drawn(random);
        Hands x = Due.told(text);
        int hands = x.rule(3);
        x.feast(hands);
        int lane = random.nextInt(3);
        int k = random.nextInt(4);
        Hands y = Due.told(text);
        Due.is("of nothing", 0, y.read(k, lane, 0, hands + 1));
        Due.is("torn()", 1, y.torn());
        y.sheet(k, lane, 2 * hands);
        for (int i = 0; i < hands; i++) {
            y.lay(k, 2 * i, lesser(y.hand(i, false)));
            y.lay(k, 2 * i + 1, greater(y.hand(i, false)));
        }
        Due.is("as of another lane", 0, y.read(k, (lane + 1) % 3, 0, hands + 1));
        Due.is("torn()", 3, y.torn());
        Due.is("one more than there are", hands, y.read(k, lane, 0, hands + 1));
        Due.is("torn()", 2, y.torn());
        Due.holds("as at THE FEAST", rows(x).equals(rows(y)));
    }
}
