/** People who hold so many things and who, when two shake hands, know the same. */
public final class ShakeHands {
    public static final int BAD = -1, STATE = -2, FULL = -3, NONE = -4;

    private static final int MOST_PEOPLE = 6;
    private static final int PAIRS = 15;
    private static final int THINGS = 16;
    private static final int MOST_HANDS = 4;
    private static final int MOST_DAYS = 99;
    private static final int IMAGES = 2;
    private static final int SHEETS = 4;
    private static final int LANES = 3;
    private static final int MOST_READ = 20;

    /** The two ONES of each PAIR, by its number. */
    private static final int[] LESSER = {0, 0, 1, 0, 1, 2, 0, 1, 2, 3, 0, 1, 2, 3, 4};
    private static final int[] GREATER = {1, 2, 2, 3, 3, 3, 4, 4, 4, 4, 5, 5, 5, 5, 5};

    private final Tape tape;
    private final Teller teller;
    private final Circle circle;
    private final Minds now;
    private final Minds[] images;
    private final Search search;
    private final Habit habit;
    private final Sheet[] sheets;
    /** ROWS that a call tries by itself. */
    private final long[] trial;
    private int kept;
    private int tornFault;

    public ShakeHands() {
        tape = new Tape();
        teller = new Teller(tape);
        circle = new Circle();
        now = new Minds();
        images = new Minds[IMAGES];
        for (int k = 0; k < IMAGES; k++) {
            images[k] = new Minds();
        }
        search = new Search(circle, now);
        habit = new Habit(circle, now);
        sheets = new Sheet[SHEETS];
        for (int k = 0; k < SHEETS; k++) {
            sheets[k] = new Sheet();
        }
        trial = new long[MOST_PEOPLE];
    }

    // ---- the text

    public int feed(long v) {
        return tape.append(v) ? tape.length : FULL;
    }

    public int end(int n) {
        if (n < 0 || n > tape.length) {
            return BAD;
        }
        int had = tape.length;
        tape.length = n;
        return had;
    }

    public int text() {
        int answer = teller.tell();
        tape.length = 0;
        if (teller.faultMet == 0) {
            circle.copy(teller.circle);
            System.arraycopy(teller.rows, 0, now.rows, 0, MOST_PEOPLE);
            now.gloved = teller.gloved;
            now.seen = 0;
            kept = 0;
        }
        return answer;
    }

    public int fault() {
        return teller.faultMet;
    }

    public int rule(int what) {
        switch (what) {
            case 0:
                return circle.people;
            case 1:
                return circle.hold;
            case 2:
                return circle.joinCount;
            case 3:
                return circle.handCount;
            case 4:
                return circle.dailyCount;
            case 5:
                return Integer.bitCount(now.gloved);
            default:
                return BAD;
        }
    }

    public int hand(int i, boolean daily) {
        if (i < 0 || i >= (daily ? circle.dailyCount : circle.handCount)) {
            return BAD;
        }
        return daily ? circle.daily[i] : circle.hands[i];
    }

    public int join(int j, int what) {
        if (j < 0 || j >= circle.joinCount || what < 0 || what > 2) {
            return BAD;
        }
        return circle.joins[3 * j + what];
    }

    // ---- who knows what

    public int knows(int p) {
        return isOne(p) ? Row.knownOf(now.rows[p]) : BAD;
    }

    public int row(int p, int i) {
        if (!isOne(p) || i < 0) {
            return BAD;
        }
        long of = now.rows[p];
        return i < Row.sizeOf(of) ? Row.thingOf(of, i) : NONE;
    }

    public int who(int thing) {
        return isThing(thing) ? Minds.knowers(now.rows, thing) : BAD;
    }

    public int learn(int p, int thing) {
        if (!isOne(p) || !isThing(thing)) {
            return BAD;
        }
        if (knowsNow(p, thing)) {
            return STATE;
        }
        now.rows[p] = circle.taught(now.rows[p], thing);
        return Row.sizeOf(now.rows[p]);
    }

    public int forget(int p, int thing) {
        if (!isOne(p) || !isThing(thing)) {
            return BAD;
        }
        if (!knowsNow(p, thing)) {
            return NONE;
        }
        now.rows[p] = circle.without(now.rows[p], thing);
        return Row.sizeOf(now.rows[p]);
    }

    public int glove(int p, boolean is) {
        if (!isOne(p)) {
            return BAD;
        }
        int did = now.gloved >>> p & 1;
        now.gloved = is ? now.gloved | 1 << p : now.gloved & ~(1 << p);
        return did;
    }

    public int shake(int a, int b) {
        if (!areTwo(a, b)) {
            return BAD;
        }
        if (((now.gloved >>> a | now.gloved >>> b) & 1) != 0) {
            return NONE;
        }
        circle.meet(now.rows, now.gloved, pairOf(a, b));
        return Row.sizeOf(now.rows[a]);
    }

    // ---- the feast

    public int feast(int n) {
        if (!isFeastPart(n)) {
            return BAD;
        }
        int before = Minds.known(now.rows);
        circle.celebrate(now.rows, now.gloved, n);
        return before & ~Minds.known(now.rows);
    }

    public int after(int n, int p) {
        if (!isFeastPart(n) || !isOne(p)) {
            return BAD;
        }
        takeTrial();
        circle.celebrate(trial, now.gloved, n);
        return Row.knownOf(trial[p]);
    }

    public int lost(int thing) {
        if (!isThing(thing)) {
            return BAD;
        }
        if (Minds.knowers(now.rows, thing) == 0) {
            return STATE;
        }
        takeTrial();
        for (int i = 0; i < circle.handCount; i++) {
            circle.meet(trial, now.gloved, circle.hands[i]);
            if (Minds.knowers(trial, thing) == 0) {
                return i;
            }
        }
        return NONE;
    }

    public int told(int p, int thing) {
        if (!isOne(p) || !isThing(thing)) {
            return BAD;
        }
        if (knowsNow(p, thing)) {
            return STATE;
        }
        takeTrial();
        for (int i = 0; i < circle.handCount; i++) {
            circle.meet(trial, now.gloved, circle.hands[i]);
            if (Row.knowsIt(trial[p], thing)) {
                return i;
            }
        }
        return NONE;
    }

    // ---- the fewest

    public int fewest(int thing, int some, int others, int what) {
        boolean asksOne = what >= 10 && what < 10 + MOST_HANDS;
        if (!isThing(thing) || !arePeople(some) || !arePeople(others) || what != 0 && !asksOne) {
            return BAD;
        }
        search.begin();
        search.aim(thing, some, 0, others);
        int least = search.fewestHands();
        if (!asksOne || least == NONE) {
            return least;
        }
        return what - 10 < least ? search.path[what - 10] : NONE;
    }

    public int rounds(int thing, int some, int others) {
        if (!isThing(thing) || !arePeople(some) || !arePeople(others)) {
            return BAD;
        }
        search.begin();
        search.aim(thing, some, 0, others);
        return search.fewestRounds();
    }

    public int lose(int thing) {
        if (!isThing(thing)) {
            return BAD;
        }
        search.begin();
        search.aim(thing, 0, everybody(), 0);
        return search.fewestHands();
    }

    // ---- the habit

    public int lives(int thing) {
        return isThing(thing) ? habit.lastDay(thing) : BAD;
    }

    public int comes(int what) {
        if (what < 0 || what > 1) {
            return BAD;
        }
        return habit.comesBack(what == 1);
    }

    public int days(int n) {
        if (n < 1 || n > MOST_DAYS) {
            return BAD;
        }
        for (int day = 0; day < n; day++) {
            circle.liveDay(now.rows, now.gloved);
        }
        return Minds.known(now.rows);
    }

    // ---- which hands

    public int saw(int p, int things) {
        if (!isOne(p) || things < 0 || things >= 1 << THINGS) {
            return BAD;
        }
        now.seen |= 1 << p;
        now.sights[p] = things;
        return Integer.bitCount(now.seen);
    }

    public int blind() {
        int were = Integer.bitCount(now.seen);
        now.seen = 0;
        return were;
    }

    public int fits(int n, int what) {
        if (n < 0 || n > MOST_HANDS || what < 0 || what > 2) {
            return BAD;
        }
        search.begin();
        search.countFits(n);
        if (what == 0) {
            return search.ways;
        }
        if (search.ways == 0) {
            return NONE;
        }
        return what == 1 ? search.inEach : search.inAny;
    }

    public int least() {
        search.begin();
        for (int n = 0; n <= MOST_HANDS; n++) {
            search.countFits(n);
            if (search.ways > 0) {
                return n;
            }
        }
        return NONE;
    }

    // ---- seats, gloves

    public int seats(int thing, int p, int what) {
        boolean asksSeat = what >= 10 && what < 10 + circle.people;
        if (!isThing(thing) || !isOne(p) || what != 0 && !asksSeat) {
            return BAD;
        }
        if (knowsNow(p, thing)) {
            return STATE;
        }
        int strangers = everybody() & ~Minds.knowers(now.rows, thing);
        search.begin();
        search.aim(thing, 1 << p, strangers & ~(1 << p), 0);
        search.countSeats();
        if (!asksSeat) {
            return search.ways;
        }
        return search.ways == 0 ? NONE : search.firstWay[what - 10];
    }

    public int gloves(int thing, int p, int what) {
        if (!isThing(thing) || !isOne(p) || what < 0 || what > 1) {
            return BAD;
        }
        if (knowsNow(p, thing)) {
            return STATE;
        }
        int worn = fewestGloves(thing, p);
        if (worn == NONE) {
            return NONE;
        }
        return what == 0 ? Integer.bitCount(worn) : worn;
    }

    // ---- images, sheets

    public int keep(int k) {
        if (!isImage(k)) {
            return BAD;
        }
        int was = kept >>> k & 1;
        images[k].copy(now);
        kept |= 1 << k;
        return was;
    }

    public int back(int k) {
        if (!isImage(k)) {
            return BAD;
        }
        if ((kept >>> k & 1) == 0) {
            return STATE;
        }
        now.copy(images[k]);
        return Minds.known(now.rows);
    }

    public int sheet(int k, int lane, int n) {
        if (!isSheet(k) || !isLane(lane) || n > Sheet.MOST_CELLS) {
            return BAD;
        }
        if (n < 0) {
            return -10 - Sheet.SIZE_FAULT;
        }
        sheets[k].renew(lane, n);
        return 1;
    }

    public int lay(int k, int i, int v) {
        if (!isSheet(k)) {
            return BAD;
        }
        int refused = sheets[k].faultAt(i);
        if (refused != 0) {
            return -10 - refused;
        }
        sheets[k].put(i, v);
        return 1;
    }

    public int read(int k, int lane, int f, int n) {
        if (!isSheet(k) || !isLane(lane) || n < 0 || n > MOST_READ) {
            return BAD;
        }
        Sheet from = sheets[k];
        int whole = 0;
        int refused = 0;
        for (int i = 0; i < n; i++) {
            // f + 2 * i can't wrap: behind HAND 0 f is a CELL's place
            refused = from.faultOfTwo(lane, f + 2 * i);
            if (refused != 0) {
                break;
            }
            if (!areTwo(from.cellAt(f + 2 * i), from.cellAt(f + 2 * i + 1))) {
                return -20 - i;
            }
            whole++;
        }
        for (int i = 0; i < whole; i++) {
            int pair = pairOf(from.cellAt(f + 2 * i), from.cellAt(f + 2 * i + 1));
            circle.meet(now.rows, now.gloved, pair);
        }
        tornFault = refused;
        return whole;
    }

    public int torn() {
        return tornFault;
    }

    public int count(int what) {
        switch (what) {
            case 0:
                return Integer.bitCount(Minds.known(now.rows));
            case 1:
                return Integer.bitCount(knownToAll());
            case 2:
                return Integer.bitCount(now.seen);
            case 3:
                return Integer.bitCount(kept);
            case 4:
                return tape.length;
            case 5:
                return sheets[0].isThere ? sheets[0].size : NONE;
            default:
                return BAD;
        }
    }

    // ---- what the calls share

    private boolean isOne(int p) {
        return p >= 0 && p < circle.people;
    }

    private boolean areTwo(int a, int b) {
        return isOne(a) && isOne(b) && a != b;
    }

    private boolean arePeople(int bits) {
        return bits >= 0 && bits <= everybody();
    }

    private int everybody() {
        return (1 << circle.people) - 1;
    }

    private static boolean isThing(int thing) {
        return thing >= 0 && thing < THINGS;
    }

    private boolean isFeastPart(int n) {
        return n >= 0 && n <= circle.handCount;
    }

    private static boolean isImage(int k) {
        return k >= 0 && k < IMAGES;
    }

    private static boolean isSheet(int k) {
        return k >= 0 && k < SHEETS;
    }

    private static boolean isLane(int lane) {
        return lane >= 0 && lane < LANES;
    }

    private boolean knowsNow(int p, int thing) {
        return Row.knowsIt(now.rows[p], thing);
    }

    private void takeTrial() {
        System.arraycopy(now.rows, 0, trial, 0, MOST_PEOPLE);
    }

    private static int pairOf(int a, int b) {
        int greater = Math.max(a, b);
        return greater * (greater - 1) / 2 + Math.min(a, b);
    }

    private int knownToAll() {
        int all = (1 << THINGS) - 1;
        for (int p = 0; p < circle.people; p++) {
            all &= Row.knownOf(now.rows[p]);
        }
        return all;
    }

    /** The fewest more who wear GLOVES so that p does not know it behind THE FEAST (the least bits), or NONE. */
    private int fewestGloves(int thing, int p) {
        int best = NONE;
        for (int more = 0; more <= everybody(); more++) {
            boolean fewer = best == NONE || Integer.bitCount(more) < Integer.bitCount(best);
            if ((more & now.gloved) == 0 && fewer) {
                takeTrial();
                circle.celebrate(trial, now.gloved | more, circle.handCount);
                if (!Row.knowsIt(trial[p], thing)) {
                    best = more;
                }
            }
        }
        return best;
    }

    /** THE TAPE. */
    private static final class Tape {
        private static final int MOST = 320;

        final byte[] bytes = new byte[MOST];
        int length;

        boolean append(long v) {
            if (length > MOST - 8) {
                return false;
            }
            for (int i = 0; i < 8; i++) {
                bytes[length + i] = (byte) (v >>> 56 - 8 * i);
            }
            length += 8;
            return true;
        }
    }

    /**
     * A ROW being made. At rest a ROW is one long (so that many are copied and compared at once): its THINGS,
     * four bits each, the eldest lowest, and above MOST of them a bit for each THING in it.
     */
    private static final class Row {
        static final int MOST = 9;
        private static final int KNOWN_FROM = 4 * MOST;
        private static final long ORDER = (1L << KNOWN_FROM) - 1;

        /** Sixteen THINGS fit while it is made. */
        long order;
        int known;

        static int knownOf(long row) {
            return (int) (row >>> KNOWN_FROM);
        }

        static int sizeOf(long row) {
            return Integer.bitCount((int) (row >>> KNOWN_FROM));
        }

        static int thingOf(long row, int i) {
            return (int) (row >>> 4 * i) & 15;
        }

        static boolean knowsIt(long row, int thing) {
            return (row >>> KNOWN_FROM + thing & 1) != 0;
        }

        void take(long row) {
            order = row & ORDER;
            known = (int) (row >>> KNOWN_FROM);
        }

        long atRest() {
            return order & ORDER | (long) known << KNOWN_FROM;
        }

        /** A THING comes last, if it is not in it. */
        void add(int thing) {
            if ((known >>> thing & 1) == 0) {
                order |= (long) thing << 4 * Integer.bitCount(known);
                known |= 1 << thing;
            }
        }

        void addAll(long row) {
            int size = Integer.bitCount((int) (row >>> KNOWN_FROM));
            for (int i = 0; i < size; i++) {
                add((int) (row >>> 4 * i) & 15);
            }
        }

        void drop(int thing) {
            int size = Integer.bitCount(known);
            for (int i = 0; i < size; i++) {
                if (((order >>> 4 * i) & 15) == thing) {
                    long elder = order & (1L << 4 * i) - 1;
                    order = order >>> 4 * i >>> 4 << 4 * i | elder;
                    known &= ~(1 << thing);
                    return;
                }
            }
        }

        /** The eldest fall out, till there are `hold`. */
        void shorten(int hold) {
            for (int over = Integer.bitCount(known) - hold; over > 0; over--) {
                known &= ~(1 << (int) (order & 15));
                order >>>= 4;
            }
        }
    }

    /** What a text tells beside ROWS and GLOVES, and what comes of a HAND under it. */
    private static final class Circle {
        static final int JOINS = 4;
        static final int HANDS = 16;
        static final int DAILY = 8;
        private static final int FIRST_PEOPLE = 3;
        private static final int FIRST_HOLD = Row.MOST;

        int people = FIRST_PEOPLE;
        int hold = FIRST_HOLD;
        /** Three THINGS for each JOIN: the two, and what they become. */
        final int[] joins = new int[3 * JOINS];
        int joinCount;
        final int[] hands = new int[HANDS];
        int handCount;
        final int[] daily = new int[DAILY];
        int dailyCount;
        private final Row making = new Row();

        void beAsAtFirst() {
            people = FIRST_PEOPLE;
            hold = FIRST_HOLD;
            joinCount = 0;
            handCount = 0;
            dailyCount = 0;
        }

        void copy(Circle from) {
            people = from.people;
            hold = from.hold;
            joinCount = from.joinCount;
            handCount = from.handCount;
            dailyCount = from.dailyCount;
            System.arraycopy(from.joins, 0, joins, 0, 3 * JOINS);
            System.arraycopy(from.hands, 0, hands, 0, HANDS);
            System.arraycopy(from.daily, 0, daily, 0, DAILY);
        }

        /** A HAND of a PAIR: whether any ROW changed. */
        boolean meet(long[] rows, int gloved, int pair) {
            if (pair < 0 || pair >= PAIRS) {
                return false;
            }
            int a = LESSER[pair];
            int b = GREATER[pair];
            if (((gloved >>> a | gloved >>> b) & 1) != 0) {
                return false;
            }
            making.take(rows[a]);
            making.addAll(rows[b]);
            settle();
            long both = making.atRest();
            boolean changed = both != rows[a] || both != rows[b];
            rows[a] = both;
            rows[b] = both;
            return changed;
        }

        long taught(long row, int thing) {
            making.take(row);
            making.add(thing);
            settle();
            return making.atRest();
        }

        long without(long row, int thing) {
            making.take(row);
            making.drop(thing);
            return making.atRest();
        }

        void celebrate(long[] rows, int gloved, int n) {
            for (int i = 0; i < n && i < handCount; i++) {
                meet(rows, gloved, hands[i]);
            }
        }

        void liveDay(long[] rows, int gloved) {
            for (int i = 0; i < dailyCount; i++) {
                meet(rows, gloved, daily[i]);
            }
        }

        /** JOINS are made, then the eldest fall out. */
        private void settle() {
            int next = firstJoin();
            // each JOIN leaves a THING less, so there are fewer than THINGS of them
            for (int made = 0; made < THINGS && next >= 0; made++) {
                making.drop(joins[next]);
                making.drop(joins[next + 1]);
                making.add(joins[next + 2]);
                next = firstJoin();
            }
            making.shorten(hold);
        }

        /** Where in `joins` the first JOIN stands of which both are in the ROW; -1: none. */
        private int firstJoin() {
            for (int j = 0; j < joinCount; j++) {
                if ((making.known >>> joins[3 * j] & making.known >>> joins[3 * j + 1] & 1) != 0) {
                    return 3 * j;
                }
            }
            return -1;
        }
    }

    /** What an IMAGE keeps: all ROWS, GLOVES, what was SEEN. A ONE that there is not has an empty ROW. */
    private static final class Minds {
        final long[] rows = new long[MOST_PEOPLE];
        int gloved;
        int seen;
        final int[] sights = new int[MOST_PEOPLE];

        void copy(Minds from) {
            System.arraycopy(from.rows, 0, rows, 0, MOST_PEOPLE);
            gloved = from.gloved;
            seen = from.seen;
            System.arraycopy(from.sights, 0, sights, 0, MOST_PEOPLE);
        }

        static int knowers(long[] rows, int thing) {
            int bits = 0;
            for (int p = 0; p < MOST_PEOPLE; p++) {
                bits |= (int) (rows[p] >>> Row.KNOWN_FROM + thing & 1) << p;
            }
            return bits;
        }

        /** THINGS that somebody knows. */
        static int known(long[] rows) {
            long any = 0;
            for (int p = 0; p < MOST_PEOPLE; p++) {
                any |= rows[p];
            }
            return (int) (any >>> Row.KNOWN_FROM);
        }
    }

    /** Reads a text off THE TAPE into a Circle, ROWS and GLOVES, till its first FAULT. */
    private static final class Teller {
        private static final int NO_TOKEN = 1;
        private static final int MISPLACED = 2;
        private static final int OUT_OF_BOUNDS = 3;
        private static final int TWICE = 4;
        private static final int TOO_MANY = 5;
        private static final int NOBODY = 6;
        private static final int OVER_HOLD = 7;

        private static final int AT_END = 0;
        private static final int NAME = 1;
        private static final int NUMBER = 2;
        private static final int SIGN = 3;

        private static final int LAST_ONE = MOST_PEOPLE - 1;
        private static final int LAST_THING = THINGS - 1;

        final Circle circle = new Circle();
        final long[] rows = new long[MOST_PEOPLE];
        int gloved;
        int faultMet;

        private final Tape tape;
        private final Row telling = new Row();
        /** The next byte to be read. */
        private int at;
        /** The TOKEN read last: what it is, where it begins, its NUMBER. */
        private int kind;
        private int place;
        private int value;
        private boolean peopleTold;
        private boolean holdTold;
        private int rowsTold;
        private int highestOne;
        private int longestRow;

        Teller(Tape from) {
            tape = from;
        }

        /** How many lines; -10 less the place of the FAULT. */
        int tell() {
            begin();
            int lines = 0;
            while (lines <= tape.length) {
                readToken();
                if (faultMet != 0 || kind == AT_END) {
                    break;
                }
                tellLine();
                lines++;
            }
            lookBack();
            return faultMet == 0 ? lines : -10 - place;
        }

        private void begin() {
            circle.beAsAtFirst();
            for (int p = 0; p < MOST_PEOPLE; p++) {
                rows[p] = 0;
            }
            gloved = 0;
            faultMet = 0;
            at = 0;
            peopleTold = false;
            holdTold = false;
            rowsTold = 0;
            highestOne = 0;
            longestRow = 0;
        }

        /** The FAULTS that show behind all. */
        private void lookBack() {
            if (highestOne >= circle.people) {
                refuse(NOBODY);
            }
            if (longestRow > circle.hold) {
                refuse(OVER_HOLD);
            }
        }

        /** The first FAULT stays, and so does its place: behind it no TOKEN is read. */
        private void refuse(int met) {
            if (faultMet == 0) {
                faultMet = met;
            }
        }

        private void readToken() {
            if (faultMet != 0) {
                return;
            }
            while (at < tape.length && tape.bytes[at] == ' ') {
                at++;
            }
            place = at;
            if (at >= tape.length) {
                kind = AT_END;
            } else if (isWithin('a', 'z')) {
                kind = NAME;
                while (at < tape.length && isWithin('a', 'z')) {
                    at++;
                }
            } else if (isWithin('0', '9')) {
                kind = NUMBER;
                value = 0;
                while (at < tape.length && isWithin('0', '9')) {
                    value = 10 * value + tape.bytes[at] - '0';
                    at++;
                }
                if (at - place > 2) {
                    refuse(NO_TOKEN);
                }
            } else if (isWithin(';', ';')) {
                kind = SIGN;
                at++;
            } else {
                refuse(NO_TOKEN);
            }
        }

        /** Whether the next byte is one of these. */
        private boolean isWithin(char first, char last) {
            return at < tape.length && tape.bytes[at] >= first && tape.bytes[at] <= last;
        }

        private boolean isCalled(String name) {
            if (at - place != name.length()) {
                return false;
            }
            for (int i = 0; i < name.length(); i++) {
                if (tape.bytes[place + i] != name.charAt(i)) {
                    return false;
                }
            }
            return true;
        }

        private void tellLine() {
            if (kind != NAME) {
                refuse(MISPLACED);
            } else if (isCalled("people")) {
                tellPeople();
            } else if (isCalled("hold")) {
                tellHold();
            } else if (isCalled("knows")) {
                tellRow();
            } else if (isCalled("join")) {
                tellJoin();
            } else if (isCalled("hand")) {
                circle.handCount = tellPair(circle.hands, circle.handCount);
            } else if (isCalled("daily")) {
                circle.dailyCount = tellPair(circle.daily, circle.dailyCount);
            } else if (isCalled("glove")) {
                tellGlove();
            } else {
                refuse(MISPLACED);
            }
        }

        private void tellPeople() {
            if (peopleTold) {
                refuse(TWICE);
            }
            peopleTold = true;
            circle.people = takeNumber(2, MOST_PEOPLE);
            takeSign();
        }

        private void tellHold() {
            if (holdTold) {
                refuse(TWICE);
            }
            holdTold = true;
            circle.hold = takeNumber(1, Row.MOST);
            takeSign();
        }

        private void tellRow() {
            int p = takeNumber(0, LAST_ONE);
            if ((rowsTold >>> p & 1) != 0) {
                refuse(TWICE);
            }
            rowsTold |= 1 << p;
            highestOne = Math.max(highestOne, p);
            telling.take(0);
            tellThing(takeNumber(0, LAST_THING));
            readToken();
            for (int i = 1; i <= Row.MOST && faultMet == 0 && kind == NUMBER; i++) {
                tellThing(boundedValue(0, LAST_THING));
                readToken();
            }
            if (kind != SIGN) {
                refuse(MISPLACED);
            }
            longestRow = Math.max(longestRow, Integer.bitCount(telling.known));
            rows[p] = telling.atRest();
        }

        private void tellThing(int thing) {
            if ((telling.known >>> thing & 1) != 0) {
                refuse(TWICE);
            } else if (Integer.bitCount(telling.known) >= Row.MOST) {
                refuse(TOO_MANY);
            } else {
                telling.add(thing);
            }
        }

        private void tellJoin() {
            if (circle.joinCount >= Circle.JOINS) {
                refuse(TOO_MANY);
                return;
            }
            int x = takeNumber(0, LAST_THING);
            int y = takeNumber(0, LAST_THING);
            if (y == x) {
                refuse(TWICE);
            }
            int becomes = takeNumber(0, LAST_THING);
            if (becomes == x || becomes == y) {
                refuse(TWICE);
            }
            takeSign();
            int j = 3 * circle.joinCount;
            circle.joins[j] = x;
            circle.joins[j + 1] = y;
            circle.joins[j + 2] = becomes;
            circle.joinCount++;
        }

        /** A HAND comes behind those that there are: how many there are then. */
        private int tellPair(int[] list, int had) {
            if (had >= list.length) {
                refuse(TOO_MANY);
                return had;
            }
            int a = takeNumber(0, LAST_ONE);
            int b = takeNumber(0, LAST_ONE);
            if (b == a) {
                refuse(TWICE);
            }
            highestOne = Math.max(highestOne, Math.max(a, b));
            takeSign();
            list[had] = faultMet == 0 ? pairOf(a, b) : 0;
            return had + 1;
        }

        private void tellGlove() {
            int p = takeNumber(0, LAST_ONE);
            if ((gloved >>> p & 1) != 0) {
                refuse(TWICE);
            }
            gloved |= 1 << p;
            highestOne = Math.max(highestOne, p);
            takeSign();
        }

        private int takeNumber(int low, int high) {
            readToken();
            if (faultMet == 0 && kind != NUMBER) {
                refuse(MISPLACED);
            }
            return boundedValue(low, high);
        }

        /** The NUMBER read last; behind a FAULT `low`, so that whoever takes it may go on. */
        private int boundedValue(int low, int high) {
            if (faultMet == 0 && (value < low || value > high)) {
                refuse(OUT_OF_BOUNDS);
            }
            return faultMet == 0 ? value : low;
        }

        private void takeSign() {
            readToken();
            if (kind != SIGN) {
                refuse(MISPLACED);
            }
        }
    }

    /** Looks through all HANDS, ROUNDS or SEATS from the ROWS of now on. */
    private static final class Search {
        private static final int MOST_ROUNDS = 2;
        /** The most HANDS of a way: three in each of two ROUNDS. */
        private static final int LEVELS = 6;

        /** The PAIRS (or PEOPLE in their SEATS) of the way that is looked at. */
        final int[] path = new int[LEVELS];
        final int[] firstWay = new int[LEVELS];
        int ways;
        int inEach;
        int inAny;

        /** ROWS behind so many HANDS of the way. */
        private final long[][] level = new long[LEVELS + 1][MOST_PEOPLE];
        private final Circle circle;
        private final Minds minds;
        private int pairs;
        private int thing;
        /** Who shall know the THING in the end, who shall not, who shall not at any time. */
        private int want;
        private int shun;
        private int never;

        Search(Circle under, Minds from) {
            circle = under;
            minds = from;
        }

        void begin() {
            pairs = circle.people * (circle.people - 1) / 2;
            System.arraycopy(minds.rows, 0, level[0], 0, MOST_PEOPLE);
        }

        void aim(int at, int wanted, int shunned, int barred) {
            thing = at;
            want = wanted;
            shun = shunned;
            never = barred;
        }

        /** The fewest HANDS, with the first way by PAIRS in path; or NONE. */
        int fewestHands() {
            if (isBarred(level[0])) {
                return NONE;
            }
            for (int n = 0; n <= MOST_HANDS; n++) {
                if (reaches(this, 0, n)) {
                    return n;
                }
            }
            return NONE;
        }

        int fewestRounds() {
            if (isBarred(level[0])) {
                return NONE;
            }
            if (amiss(level[0]) == 0) {
                return 0;
            }
            for (int n = 1; n <= MOST_ROUNDS; n++) {
                if (turns(this, 0, 0, 0, n)) {
                    return n;
                }
            }
            return NONE;
        }

        /** ROWS THAT FIT of n HANDS: ways, inEach, inAny. */
        void countFits(int n) {
            ways = 0;
            inEach = (1 << PAIRS) - 1;
            inAny = 0;
            fit(this, 0, n, 0);
        }

        /** SEATS that meet the aim: ways, firstWay. */
        void countSeats() {
            ways = 0;
            sit(this, 0, 0);
        }

        private boolean isBarred(long[] rows) {
            return (Minds.knowers(rows, thing) & never) != 0;
        }

        /** PEOPLE (bits) who are not as the aim has it. */
        private int amiss(long[] rows) {
            return (Minds.knowers(rows, thing) ^ want) & (want | shun);
        }

        /** PEOPLE (bits) who were SEEN and do not know just that. */
        private int unlikeSeen(long[] rows) {
            int unlike = 0;
            for (int p = 0; p < circle.people; p++) {
                if ((minds.seen >>> p & 1) != 0 && Row.knownOf(rows[p]) != minds.sights[p]) {
                    unlike |= 1 << p;
                }
            }
            return unlike;
        }

        /** The two of a PAIR (bits). */
        private static int bitsOf(int pair) {
            return pair < 0 || pair >= PAIRS ? 0 : 1 << LESSER[pair] | 1 << GREATER[pair];
        }

        /** Whether a HAND of `two` and `left` more can set right who is wrong: each changes no ROWS but two. */
        private static boolean canMend(int wrong, int two, int left) {
            return Integer.bitCount(wrong & ~two) <= 2 * left;
        }

        /** One HAND more behind `depth` of them: whether any ROW changed. */
        private boolean step(int depth, int pair) {
            if (depth < 0 || depth >= LEVELS) {
                return false;
            }
            System.arraycopy(level[depth], 0, level[depth + 1], 0, MOST_PEOPLE);
            return circle.meet(level[depth + 1], minds.gloved, pair);
        }

        /** Whether `depth` HANDS and some more, n in all, meet the aim. */
        private static boolean reaches(Search s, int depth, int n) {
            int wrong = s.amiss(s.level[depth]);
            if (depth >= n) {
                return wrong == 0;
            }
            for (int pair = 0; pair < s.pairs; pair++) {
                // a HAND that changes nothing is in no fewest row
                if (canMend(wrong, bitsOf(pair), n - depth - 1) && s.step(depth, pair)
                        && !s.isBarred(s.level[depth + 1])) {
                    s.path[depth] = pair;
                    if (reaches(s, depth + 1, n)) {
                        return true;
                    }
                }
            }
            return false;
        }

        /**
         * Whether the aim is met by `left` ROUNDS, the first of which has HANDS of `busy` PEOPLE already and takes
         * no more PAIRS but those from `from` on.
         */
        private static boolean turns(Search s, int depth, int busy, int from, int left) {
            if (left == 0) {
                return s.amiss(s.level[depth]) == 0;
            }
            if (!s.isBarred(s.level[depth]) && turns(s, depth, 0, 0, left - 1)) {
                return true;
            }
            for (int pair = from; pair < s.pairs && depth < LEVELS; pair++) {
                int two = bitsOf(pair);
                if (((busy | s.minds.gloved) & two) == 0) {
                    s.step(depth, pair);
                    if (turns(s, depth + 1, busy | two, pair + 1, left)) {
                        return true;
                    }
                }
            }
            return false;
        }

        /** Counts ROWS THAT FIT of n HANDS that begin with `depth` HANDS of the PAIRS `used`. */
        private static void fit(Search s, int depth, int n, int used) {
            int wrong = s.unlikeSeen(s.level[depth]);
            if (depth >= n) {
                if (wrong == 0) {
                    s.ways++;
                    s.inEach &= used;
                    s.inAny |= used;
                }
                return;
            }
            for (int pair = 0; pair < s.pairs; pair++) {
                int two = bitsOf(pair);
                if ((s.minds.gloved & two) == 0 && canMend(wrong, two, n - depth - 1)) {
                    s.step(depth, pair);
                    fit(s, depth + 1, n, used | 1 << pair);
                }
            }
        }

        /** Counts SEATS that meet the aim and begin with the first `depth` of path, who are `seated`. */
        private static void sit(Search s, int depth, int seated) {
            if (depth >= s.circle.people) {
                if (s.amiss(s.level[depth]) == 0) {
                    if (s.ways == 0) {
                        System.arraycopy(s.path, 0, s.firstWay, 0, LEVELS);
                    }
                    s.ways++;
                }
                return;
            }
            for (int p = 0; p < s.circle.people; p++) {
                if ((seated >>> p & 1) == 0) {
                    s.path[depth] = p;
                    s.step(depth, depth == 0 ? -1 : pairOf(s.path[depth - 1], p));
                    sit(s, depth + 1, seated | 1 << p);
                }
            }
        }
    }

    /** THE HABIT by itself. */
    private static final class Habit {
        private static final int MOST = 200;

        /** ROWS behind each DAY, one DAY behind another. */
        private final long[] past = new long[(MOST + 1) * MOST_PEOPLE];
        private final long[] rows = new long[MOST_PEOPLE];
        private final Circle circle;
        private final Minds minds;

        Habit(Circle under, Minds from) {
            circle = under;
            minds = from;
        }

        /** The first DAY behind which nobody knows a THING; or NONE. */
        int lastDay(int thing) {
            System.arraycopy(minds.rows, 0, rows, 0, MOST_PEOPLE);
            for (int day = 0; day <= MOST; day++) {
                if (Minds.knowers(rows, thing) == 0) {
                    return day;
                }
                circle.liveDay(rows, minds.gloved);
            }
            return NONE;
        }

        /** The least DAY that comes back, or behind how many DAYS it does at first; or NONE. */
        int comesBack(boolean asksHowLong) {
            System.arraycopy(minds.rows, 0, rows, 0, MOST_PEOPLE);
            for (int day = 0; day <= MOST; day++) {
                int earlier = sameDay(day);
                if (earlier >= 0) {
                    return asksHowLong ? day - earlier : earlier;
                }
                System.arraycopy(rows, 0, past, day * MOST_PEOPLE, MOST_PEOPLE);
                circle.liveDay(rows, minds.gloved);
            }
            return NONE;
        }

        /** The DAY ahead of `before` with the ROWS of now; -1: none. */
        private int sameDay(int before) {
            for (int day = 0; day < before; day++) {
                int p = 0;
                while (p < MOST_PEOPLE && past[day * MOST_PEOPLE + p] == rows[p]) {
                    p++;
                }
                if (p == MOST_PEOPLE) {
                    return day;
                }
            }
            return -1;
        }
    }

    /** A SHEET: CELLS of one lane, as its sign and width have them; or nothing. */
    private static final class Sheet {
        static final int MOST_CELLS = 40;
        static final int SIZE_FAULT = 4;
        private static final int NULL_FAULT = 1;
        private static final int INDEX_FAULT = 2;
        private static final int CAST_FAULT = 3;
        private static final int BYTES = 0;
        private static final int SHORTS = 1;

        boolean isThere;
        int size;
        private int lane;
        private final int[] cells = new int[MOST_CELLS];

        void renew(int ofLane, int n) {
            isThere = true;
            lane = ofLane;
            size = n;
            for (int i = 0; i < MOST_CELLS; i++) {
                cells[i] = 0;
            }
        }

        int faultAt(int i) {
            if (!isThere) {
                return NULL_FAULT;
            }
            return i < 0 || i >= size ? INDEX_FAULT : 0;
        }

        /** The FAULT of CELL i and the next one, if it is taken as of a lane. */
        int faultOfTwo(int asLane, int i) {
            if (isThere && lane != asLane) {
                return CAST_FAULT;
            }
            int first = faultAt(i);
            return first != 0 ? first : faultAt(i + 1);
        }

        int cellAt(int i) {
            return faultAt(i) == 0 ? cells[i] : 0;
        }

        void put(int i, int v) {
            if (faultAt(i) == 0) {
                cells[i] = lane == BYTES ? (byte) v : lane == SHORTS ? (short) v : v;
            }
        }
    }
}
