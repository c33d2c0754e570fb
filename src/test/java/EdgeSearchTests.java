/** Sentences that name a boundary: FEWEST, ROUNDS, SEEN, ROWS THAT FIT, SEATS, promises 20 to 22 and 26 to 31. */
final class EdgeSearchTests {
    private static final int BAD = ShakeHands.BAD;
    private static final int STATE = ShakeHands.STATE;
    private static final int NONE = ShakeHands.NONE;
    private static final int MIN = Integer.MIN_VALUE;
    private static final int MAX = Integer.MAX_VALUE;
    private static final int[] NO_ONE = {-1, 4, 5, 6, MIN, MAX};
    private static final int[] NO_THING = {-1, 16, 32, MIN, MAX};
    /** What is no bits of four PEOPLE. */
    private static final int[] NO_BITS = {-1, 16, 17, 31, 32, 64, MIN, MAX};
    /** One of six knows a THING. */
    private static final String SIX = "people 6;knows 0 1;";

    private EdgeSearchTests() {
    }

    static void run() {
        terms();
        calls();
    }

    private static void terms() {
        says(0, "FEWEST: rows of HANDS (0 to 4 of them) from now on, those with GLOVES left out,",
                EdgeSearchTests::fewestHands);
        says(0, "behind which each ONE of some knows a THING, while none of others knows it at any time (now, too):",
                EdgeSearchTests::atAnyTime);
        says(0, "the fewest HANDS; of several the first by PAIRS.", EdgeSearchTests::firstByPairs);
        says(0, "ROUNDS: in each some HANDS of PEOPLE all unlike at once, none with GLOVES:", EdgeSearchTests::atOnce);
        says(0, "0 to 2 of them, likewise (others are looked at behind each ROUND).", EdgeSearchTests::behindEachRound);
        says(0, "SEEN: what a ONE knows at night (THINGS as bits).", EdgeSearchTests::atNight);
        says(0, "ROWS THAT FIT: rows of n HANDS (0 to 4) from now on, those with GLOVES left out, behind which all who "
                + "were SEEN know just that.", EdgeSearchTests::rowsThatFit);
        says(0, "SEATS: PEOPLE in a row; each gives a HAND to the next one, from the first on, once.",
                EdgeSearchTests::inARow);
    }

    private static void calls() {
        says(20, "FEWEST so that some (bits) know a THING and others (bits) never:", EdgeSearchTests::fewestSoThat);
        says(20, "how many HANDS (what 0); 10 and i: the PAIR of the i-th.", EdgeSearchTests::fewest);
        says(20, "BAD (bits of PEOPLE);", EdgeSearchTests::fewestBad);
        says(20, "NONE: not by 4 (10 and i (0 to 3): there is no such one).", EdgeSearchTests::fewestNone);
        says(21, "ROUNDS likewise: how many. BAD; NONE: not by 2.", EdgeSearchTests::rounds);
        says(22, "The fewest HANDS (0 to 4) behind which nobody knows a THING. BAD; NONE: not by 4.",
                EdgeSearchTests::lose);
        says(26, "SEEN: a ONE knows just these (0 to 65535): how many were SEEN (of each ONE the latest). BAD.",
                EdgeSearchTests::saw);
        says(27, "Nobody was SEEN: how many were.", EdgeSearchTests::blind);
        says(28, "ROWS THAT FIT: how many (what 0), PAIRS that are in each of them (1; bits), in any of them (2; bits).",
                EdgeSearchTests::fits);
        says(28, "BAD; NONE (1, 2): there are none.", EdgeSearchTests::fitsRefused);
        says(29, "The least n (0 to 4) for which there are such ROWS. NONE.", EdgeSearchTests::least);
        says(30, "SEATS so that a ONE who does not know a THING knows it then, and nobody else who does not know it now:",
                EdgeSearchTests::seatsSoThat);
        says(30, "how many ways (what 0); 10 and i: who sits there in the first one (by numbers, from the first SEAT).",
                EdgeSearchTests::seats);
        says(30, "BAD; STATE: he knows it; NONE (10 and i): there are none.", EdgeSearchTests::seatsRefused);
        says(31, "The fewest PEOPLE who wear GLOVES, besides those who do, so that a ONE does not know a THING behind THE "
                + "FEAST: how many (what 0), these (1; bits, the least).", EdgeSearchTests::gloves);
        says(31, "BAD; STATE: he knows it now; NONE: not by any.", EdgeSearchTests::glovesRefused);
    }

    private static void says(int promise, String words, Runnable test) {
        Sentence.says(promise, words, test);
    }

    // ---- terms

    private static void fewestHands() {
        // each HAND tells one more: so many of six by 0 to 4, all six by 5
        for (int hands = 0; hands <= 5; hands++) {
            int some = (2 << hands) - 1;
            Twins.leaves(Twins.text(SIX), "fewest of " + (hands + 1), hands <= 4 ? hands : NONE, x -> x.fewest(1, some, 0, 0));
        }
        // with GLOVES: neither from 0 nor to 5
        Hands x = Due.told(SIX + "glove 5;");
        Due.is("to GLOVES", NONE, x.fewest(1, 32, 0, 0));
        Due.is("besides GLOVES", 4, x.fewest(1, 31, 32, 0));
        // there is no HAND with a ONE that there is not
        for (int people = 2; people <= 6; people++) {
            int others = (1 << people) - 2;
            x = Due.told("people " + people + ";knows 0 1 2;join 1 2 3;");
            Due.is("with nobody of " + people, NONE, x.fewest(3, 1, others, 0));
            Due.is("with one of " + people, 1, x.fewest(3, 1, others & others - 1, 0));
        }
        // a HAND may set two right: six by three of them
        x = Due.told("people 6;join 1 2 3;knows 0 1;knows 1 2;knows 2 1;knows 3 2;knows 4 1;knows 5 2;");
        Due.is("two by two", 3, x.fewest(3, 63, 0, 0));
        Due.is("two by two, the first", 0, x.fewest(3, 63, 0, 10));
        Due.is("two by two, the second", 5, x.fewest(3, 63, 0, 11));
        Due.is("two by two, the third", 14, x.fewest(3, 63, 0, 12));
        x = Due.told(SIX + "glove 0;");
        Due.is("from GLOVES", NONE, x.fewest(1, 2, 0, 0));
        Due.is("in GLOVES", 0, x.fewest(1, 1, 0, 0));
        x.learn(2, 1);
        Due.is("from 2", 1, x.fewest(1, 2, 0, 0));
        Due.is("by PAIR 2", 2, x.fewest(1, 2, 0, 10));
    }

    private static void atAnyTime() {
        Twins.leaves(Twins.text(SIX), "now", NONE, x -> x.fewest(1, 0, 1, 0));
        Twins.leaves(Twins.text(SIX), "some and others", NONE, x -> x.fewest(1, 2, 2, 0));
        Twins.leaves(Twins.text(SIX), "all the others never", 1, x -> x.fewest(1, 32, 30, 0));
        Twins.leaves(Twins.text(SIX), "he who has it never", NONE, x -> x.fewest(1, 32, 1, 0));
        Twins.leaves(Twins.text(SIX), "nobody needs it, nobody has it", 0, x -> x.fewest(2, 0, 63, 0));
        // 1 would know 3 for a while only: behind the first HAND, not behind the second
        String text = "people 3;knows 0 1;knows 1 2;knows 2 4;join 1 2 3;join 3 4 5;";
        Twins.leaves(Twins.text(text), "5 to 2", 2, x -> x.fewest(5, 4, 0, 0));
        Twins.leaves(Twins.text(text), "5 to 2, not to 1", 2, x -> x.fewest(5, 4, 2, 0));
        Twins.leaves(Twins.text(text), "3 to 0, not to 1 for a while", NONE, x -> x.fewest(3, 1, 2, 0));
        Twins.leaves(Twins.text(text), "3 to 0, not to 2", 1, x -> x.fewest(3, 1, 4, 0));
        // some have to know it in the end, not for a while
        Twins.leaves(Twins.text("people 2;hold 1;knows 0 1;knows 1 2;"), "it falls out", NONE, x -> x.fewest(1, 2, 0, 0));
    }

    private static void firstByPairs() {
        // to 3 by way of whoever: just 0-3
        fewestIs(Due.told("people 4;knows 0 1;"), 8, 3);
        // 0-1 and 0-2 (PAIRS 0 1) come ahead of 0-1 and 1-2 (0 2), of 0-2 and 0-1 (1 0)
        fewestIs(Due.told("people 4;knows 0 1;"), 6, 0, 1);
        fewestIs(Due.told("people 4;knows 0 1;"), 14, 0, 1, 3);
        fewestIs(Due.told("people 5;knows 4 1;"), 15, 6, 0, 1, 3);
        // 1 to 3 by 4: one HAND from 4 to any of them
        fewestIs(Due.told("people 5;knows 4 1;"), 4, 8);
        fewestIs(Due.told("people 5;knows 4 1;knows 3 1;"), 4, 5);
        // a HAND of PAIR 0 at first would tell nobody, behind another it does
        fewestIs(Due.told("people 5;knows 4 1;knows 3 1;"), 3, 3, 0);
        fewestIs(Due.told("people 5;knows 4 1;glove 0;glove 3;"), 6, 7, 2);
    }

    /** That the fewest HANDS so that some know THING 1 are just these. */
    private static void fewestIs(Hands x, int some, int... pairs) {
        Due.is("how many", pairs.length, x.fewest(1, some, 0, 0));
        for (int i = 0; i < 4; i++) {
            Due.is("HAND " + i, i < pairs.length ? pairs[i] : NONE, x.fewest(1, some, 0, 10 + i));
        }
    }

    private static void atOnce() {
        // one who knows it: two by one ROUND, four by two, five by none
        int[] due = {0, 1, 2, 2, NONE, NONE};
        for (int more = 0; more <= 5; more++) {
            int some = (2 << more) - 1;
            Twins.leaves(Twins.text(SIX), "rounds of " + (more + 1), due[more], x -> x.rounds(1, some, 0));
        }
        // two who know it: all six by two; three who know it: by one
        Twins.leaves(Twins.text(SIX + "knows 1 1;"), "of two", 2, x -> x.rounds(1, 63, 0));
        Twins.leaves(Twins.text(SIX + "knows 1 1;knows 2 1;"), "of three", 1, x -> x.rounds(1, 63, 0));
        Twins.leaves(Twins.text(SIX + "knows 1 1;knows 2 1;glove 5;"), "to GLOVES", NONE, x -> x.rounds(1, 63, 0));
        Twins.leaves(Twins.text(SIX + "knows 1 1;knows 2 1;glove 2;"), "besides GLOVES", 2, x -> x.rounds(1, 63, 0));
        // each two HANDS of PEOPLE unlike, in one ROUND
        for (int a = 0; a < 36; a++) {
            for (int b = a + 1; b < 36; b++) {
                twoAtOnce(a / 6, a % 6, b / 6, b % 6);
            }
        }
        // there is no HAND with a ONE that there is not
        for (int people = 2; people <= 6; people++) {
            int others = (1 << people) - 2;
            Hands x = Due.told("people " + people + ";knows 0 1 2;join 1 2 3;");
            Due.is("with nobody of " + people, NONE, x.rounds(3, 1, others));
            Due.is("with one of " + people, 1, x.rounds(3, 1, others & others - 1));
        }
        // an odd one is left over
        Twins.leaves(Twins.text("people 3;knows 0 1;"), "of three PEOPLE", 2, x -> x.rounds(1, 7, 0));
        Twins.leaves(Twins.text("people 5;knows 0 1;knows 1 1;"), "of five PEOPLE", 2, x -> x.rounds(1, 31, 0));
    }

    /** That two HANDS can be shaken at once if their PEOPLE are unlike: only these four can make THING 3. */
    private static void twoAtOnce(int a, int b, int c, int d) {
        int bits = 1 << a | 1 << b | 1 << c | 1 << d;
        if (a < b && c < d && Integer.bitCount(bits) == 4) {
            Hands x = Due.told("people 6;join 1 2 3;join 4 5 3;knows " + a + " 1;knows " + b + " 2;knows " + c + " 4;knows "
                    + d + " 5;");
            Due.is("two at once", 1, x.rounds(3, bits, 63 & ~bits));
        }
    }

    private static void behindEachRound() {
        Twins.leaves(Twins.text(SIX), "others now", NONE, x -> x.rounds(1, 0, 1));
        Twins.leaves(Twins.text(SIX), "none now", 0, x -> x.rounds(1, 0, 62));
        Twins.leaves(Twins.text(SIX), "some and others", NONE, x -> x.rounds(1, 2, 2));
        Twins.leaves(Twins.text(SIX), "just four", 2, x -> x.rounds(1, 15, 48));
        // 3 is made by 0 and 1 only: both know it behind the first ROUND, 1 loses it in the second
        String text = "people 3;knows 0 1;knows 1 2;knows 2 4;join 1 2 3;join 3 4 5;";
        Twins.leaves(Twins.text(text), "3 to 0", 1, x -> x.rounds(3, 1, 0));
        Twins.leaves(Twins.text(text), "3 to 0, not to 1", NONE, x -> x.rounds(3, 1, 2));
        Twins.leaves(Twins.text(text), "3 to 0, not to 2", 1, x -> x.rounds(3, 1, 4));
        Twins.leaves(Twins.text(text), "5 to 2, not to 0", 2, x -> x.rounds(5, 4, 1));
        // each PAIR of three by the second ROUND: c makes 6 with b, b makes 5 with a
        int[][] orders = {{0, 1, 2}, {1, 0, 2}, {0, 2, 1}, {2, 0, 1}, {1, 2, 0}, {2, 1, 0}};
        for (int[] o : orders) {
            String turned = "join 2 4 6;join 6 1 5;knows " + o[0] + " 1;knows " + o[1] + " 2;knows " + o[2] + " 4;";
            Twins.leaves(Twins.text(turned), "by the second", 2, x -> x.rounds(5, 1 << o[0] | 1 << o[1], 1 << o[2]));
        }
    }

    private static void atNight() {
        Hands x = Due.told("knows 0 0 15;");
        int[] sights = {0, 1, 1 << 15, 1 << 15 | 1, 1 << 15 | 3, 65535};
        for (int sight : sights) {
            Due.is("saw(0, " + sight + ")", 1, x.saw(0, sight));
            Due.is("fits(0, 0)", sight == (1 << 15 | 1) ? 1 : 0, x.fits(0, 0));
        }
        Due.is("saw(1, 1)", 2, x.saw(1, 1));
        Due.is("fits(0, 0)", 0, x.fits(0, 0));
        Due.is("saw(0, ..)", 2, x.saw(0, 1 << 15 | 1));
        Due.is("saw(1, 0)", 2, x.saw(1, 0));
        Due.is("fits(0, 0)", 1, x.fits(0, 0));
        // the order of a ROW is not SEEN
        x = Due.told("knows 0 1 2;knows 1 2 1;");
        x.saw(0, 6);
        x.saw(1, 6);
        Due.is("fits(0, 0)", 1, x.fits(0, 0));
    }

    private static void rowsThatFit() {
        // without SEEN all rows fit: as many as PAIRS, n times by themselves
        for (int people = 2; people <= 6; people++) {
            Hands x = Due.told("people " + people + ";");
            int pairs = people * (people - 1) / 2;
            int due = 1;
            for (int n = 0; n <= 4; n++) {
                Due.is("fits(" + n + ", 0) of " + people, due, x.fits(n, 0));
                Due.is("fits(" + n + ", 1) of " + people, n > 0 && people == 2 ? 1 : 0, x.fits(n, 1));
                Due.is("fits(" + n + ", 2) of " + people, n == 0 ? 0 : (1 << pairs) - 1, x.fits(n, 2));
                due *= pairs;
            }
        }
        // with GLOVES: three without them, two, one
        Hands x = Due.told("people 4;glove 3;");
        Due.is("of three", 81, x.fits(4, 0));
        Due.is("PAIRS of three", 7, x.fits(4, 2));
        x.glove(0, true);
        Due.is("of two", 1, x.fits(4, 0));
        Due.is("PAIRS of two", 4, x.fits(4, 1));
        x.glove(1, true);
        Due.is("of one", 0, x.fits(1, 0));
        Due.is("of one, none of them", 1, x.fits(0, 0));
    }

    private static void inARow() {
        // by 2 1 0 only: in each other row 2 comes to know it, too, or 1 does not
        Hands x = Due.told("knows 0 1;");
        Due.is("to 1 alone", 1, x.seats(1, 1, 0));
        Due.is("SEAT 0", 2, x.seats(1, 1, 10));
        x = Due.told("people 2;knows 0 1;");
        Due.is("two in a row", 2, x.seats(1, 1, 0));
        Due.is("SEAT 0", 0, x.seats(1, 1, 10));
        Due.is("SEAT 1", 1, x.seats(1, 1, 11));
        // six in a row: the last but one gets it of the last
        x = Due.told(SIX);
        Due.is("six in a row", 24, x.seats(1, 5, 0));
        // from the first on: in 2 1 0 ONE 2 gets 3, and 1 makes 5 of it with 0; no HAND is given back
        x = Due.told("knows 0 1;knows 1 2;knows 2 4;join 4 2 3;join 3 1 5;");
        Due.is("5 to 1 alone", 0, x.seats(5, 1, 0));
        Due.is("3 to 2 alone", 1, x.seats(3, 2, 0));
        Due.is("SEAT 0", 2, x.seats(3, 2, 10));
        Due.is("SEAT 1", 1, x.seats(3, 2, 11));
        Due.is("SEAT 2", 0, x.seats(3, 2, 12));
    }

    // ---- the fewest

    private static void fewest() {
        for (int hands = 0; hands <= 4; hands++) {
            int some = (2 << hands) - 1;
            int[] pairs = {0, 1, 3, 6};
            Due.is("fewest(.., 0)", hands, Due.told(SIX).fewest(1, some, 0, 0));
            for (int i = 0; i < 4; i++) {
                int what = 10 + i;
                Twins.leaves(Twins.text(SIX), "fewest(.., " + what + ") of " + hands, i < hands ? pairs[i] : NONE,
                        x -> x.fewest(1, some, 0, what));
            }
        }
        Twins.leaves(Twins.RICH, "fewest of RICH", 1, x -> x.fewest(7, 3, 8, 0));
    }

    private static void fewestSoThat() {
        // ONE k knows THING k: each of some needs a HAND of k's or of one who was told
        for (int k = 0; k < 6; k++) {
            Hands x = Due.told("people 6;knows 0 0;knows 1 1;knows 2 2;knows 3 3;knows 4 4;knows 5 5;");
            for (int some = 0; some < 64; some++) {
                int told = Integer.bitCount(some & ~(1 << k));
                int others = 63 & ~some & ~(1 << k);
                Due.is("some " + some + " know " + k, told <= 4 ? told : NONE, x.fewest(k, some, 0, 0));
                Due.is("some " + some + " know " + k + ", the others never", told <= 4 ? told : NONE,
                        x.fewest(k, some, others, 0));
                Due.is("some " + some + " know " + k + ", he never", NONE, x.fewest(k, some, 1 << k, 0));
            }
        }
        // the THING that is asked for, not another one that they know
        Twins.leaves(Twins.text("knows 0 1 2;knows 1 1;"), "THING 1", 0, x -> x.fewest(1, 3, 4, 0));
        Twins.leaves(Twins.text("knows 0 1 2;knows 1 1;"), "THING 2", 1, x -> x.fewest(2, 3, 4, 0));
        Twins.leaves(Twins.text("knows 0 1 2;knows 1 1;"), "THING 3", NONE, x -> x.fewest(3, 3, 4, 0));
    }

    private static void fewestBad() {
        for (int thing : NO_THING) {
            Twins.leaves(Twins.RICH, "fewest of " + thing, BAD, x -> x.fewest(thing, 0, 0, 0));
        }
        for (int bits : NO_BITS) {
            Twins.leaves(Twins.RICH, "some " + bits, BAD, x -> x.fewest(7, bits, 0, 0));
            Twins.leaves(Twins.RICH, "others " + bits, BAD, x -> x.fewest(7, 0, bits, 0));
        }
        for (int what : new int[] {-1, 1, 2, 9, 14, 15, 16, 20, MIN, MAX}) {
            Twins.leaves(Twins.RICH, "what " + what, BAD, x -> x.fewest(7, 0, 0, what));
        }
        // all bits there are, for 2 to 6 PEOPLE
        for (int people = 2; people <= 6; people++) {
            Hands x = Due.told("people " + people + ";");
            int all = (1 << people) - 1;
            Due.is("others, all", 0, x.fewest(1, 0, all, 0));
            Due.is("others above", BAD, x.fewest(1, 0, all + 1, 0));
            Due.is("some, all", NONE, x.fewest(1, all, 0, 0));
            Due.is("some above", BAD, x.fewest(1, all + 1, 0, 0));
            Due.is("some below", BAD, x.fewest(1, -1, 0, 0));
            Due.is("others below", BAD, x.fewest(1, 0, -1, 0));
        }
        Due.is("THING 0", 0, Due.told("knows 0 0;").fewest(0, 1, 6, 0));
        Due.is("THING 15", 0, Due.told("knows 0 15;").fewest(15, 1, 6, 0));
    }

    private static void fewestNone() {
        Twins.leaves(Twins.text(SIX), "by 4", 4, x -> x.fewest(1, 31, 0, 0));
        Twins.leaves(Twins.text(SIX), "not by 4", NONE, x -> x.fewest(1, 63, 0, 0));
        for (int i = 0; i <= 3; i++) {
            int what = 10 + i;
            Twins.leaves(Twins.text(SIX), "not by 4, HAND " + i, NONE, x -> x.fewest(1, 63, 0, what));
            Twins.leaves(Twins.text(SIX), "by 0, HAND " + i, NONE, x -> x.fewest(1, 1, 0, what));
            Twins.leaves(Twins.text(SIX), "by 1, HAND " + i, i == 0 ? 10 : NONE, x -> x.fewest(1, 32, 0, what));
        }
        Twins.leaves(Twins.NEW, "nobody has it", NONE, x -> x.fewest(0, 1, 0, 0));
    }

    private static void rounds() {
        Twins.leaves(Twins.text(SIX), "by 0", 0, x -> x.rounds(1, 1, 0));
        Twins.leaves(Twins.text(SIX), "by 1", 1, x -> x.rounds(1, 33, 0));
        Twins.leaves(Twins.text(SIX), "by 2", 2, x -> x.rounds(1, 56, 0));
        Twins.leaves(Twins.text(SIX), "not by 2", NONE, x -> x.rounds(1, 60, 0));
        Twins.leaves(Twins.NEW, "nobody has it", NONE, x -> x.rounds(0, 1, 0));
        for (int thing : NO_THING) {
            Twins.leaves(Twins.RICH, "rounds of " + thing, BAD, x -> x.rounds(thing, 0, 0));
        }
        for (int bits : NO_BITS) {
            Twins.leaves(Twins.RICH, "some " + bits, BAD, x -> x.rounds(7, bits, 0));
            Twins.leaves(Twins.RICH, "others " + bits, BAD, x -> x.rounds(7, 0, bits));
        }
        for (int people = 2; people <= 6; people++) {
            Hands x = Due.told("people " + people + ";");
            int all = (1 << people) - 1;
            Due.is("others, all", 0, x.rounds(1, 0, all));
            Due.is("others above", BAD, x.rounds(1, 0, all + 1));
            Due.is("some, all", NONE, x.rounds(1, all, 0));
            Due.is("some above", BAD, x.rounds(1, all + 1, 0));
        }
    }

    private static void lose() {
        // HOLD 1: each HAND with 5, who knows 2, takes it from one of them
        for (int knowers = 0; knowers <= 5; knowers++) {
            StringBuilder text = new StringBuilder("people 6;hold 1;knows 5 2;");
            for (int p = 0; p < knowers; p++) {
                text.append("knows ").append(p).append(" 1;");
            }
            int due = knowers <= 4 ? knowers : NONE;
            Twins.leaves(Twins.text(text.toString()), "lose of " + knowers, due, x -> x.lose(1));
            Twins.leaves(Twins.text(text + "glove 5;"), "in GLOVES", knowers == 0 ? 0 : NONE, x -> x.lose(1));
        }
        // a HAND may take it from two: six by three of them
        for (int pairs = 1; pairs <= 3; pairs++) {
            StringBuilder text = new StringBuilder("people " + 2 * pairs + ";join 1 2 3;");
            for (int p = 0; p < 2 * pairs; p++) {
                text.append("knows ").append(p).append(" 1 2;");
            }
            int due = pairs;
            Twins.leaves(Twins.text(text.toString()), "lose, two by two", due, x -> x.lose(1));
        }
        for (int thing : NO_THING) {
            Twins.leaves(Twins.RICH, "lose of " + thing, BAD, x -> x.lose(thing));
        }
        Twins.leaves(Twins.NEW, "lose(0)", 0, x -> x.lose(0));
        Twins.leaves(Twins.NEW, "lose(15)", 0, x -> x.lose(15));
        Twins.leaves(Twins.text("knows 0 15;"), "lose(15)", NONE, x -> x.lose(15));
    }

    // ---- which hands

    private static void saw() {
        Hands x = Due.told("people 6;");
        for (int p = 0; p < 6; p++) {
            Due.is("saw(" + p + ", 65535)", p + 1, x.saw(p, 65535));
        }
        for (int p = 0; p < 6; p++) {
            Due.is("saw(" + p + ", 0) once more", 6, x.saw(p, 0));
        }
        Due.is("the latest of each", 1, x.fits(0, 0));
        Due.is("saw(6, 0)", BAD, x.saw(6, 0));
        for (int p : NO_ONE) {
            Twins.leaves(Twins.RICH, "saw(" + p + ", 0)", BAD, y -> y.saw(p, 0));
        }
        for (int things : new int[] {-1, 65536, 65537, 131072, MIN, MAX}) {
            Twins.leaves(Twins.RICH, "saw(0, " + things + ")", BAD, y -> y.saw(0, things));
            Twins.leaves(Twins.NEW, "saw(0, " + things + ")", BAD, y -> y.saw(0, things));
        }
        Due.is("saw(2, 65535)", 1, new Hands().saw(2, 65535));
        Due.is("saw(2, 0)", 1, new Hands().saw(2, 0));
        // in RICH all four were SEEN: none is new
        Hands rich = new Hands();
        Twins.RICH.accept(rich);
        Due.is("saw of one who was", 4, rich.saw(0, 1));
    }

    private static void blind() {
        Twins.leaves(Twins.NEW, "blind() of none", 0, x -> x.blind());
        Hands x = new Hands();
        for (int p = 0; p < 3; p++) {
            x.saw(p, 1);
            Due.is("count(2)", p + 1, x.count(2));
        }
        Due.is("least()", NONE, x.least());
        Due.is("blind() of three", 3, x.blind());
        Due.is("count(2)", 0, x.count(2));
        Due.is("least()", 0, x.least());
        Due.is("blind() once more", 0, x.blind());
        Due.is("saw behind it", 1, x.saw(2, 0));
        Due.is("fits(0, 0)", 1, x.fits(0, 0));
    }

    private static void fits() {
        // 3 knows what 0 knew: one row of one HAND, more of two
        String text = "people 4;knows 0 1;knows 1 2;";
        Hands x = Due.told(text);
        x.saw(3, 2);
        Due.is("fits(0, 0)", 0, x.fits(0, 0));
        Due.is("fits(1, 0)", 1, x.fits(1, 0));
        Due.is("fits(1, 1)", 8, x.fits(1, 1));
        Due.is("fits(1, 2)", 8, x.fits(1, 2));
        // 03 and 01 02 12 behind or 02 12 ahead or twice; 02 23; 23 behind 03; 23 ahead of 03
        Due.is("fits(2, 0)", 9, x.fits(2, 0));
        Due.is("fits(2, 1)", 0, x.fits(2, 1));
        Due.is("fits(2, 2)", 1 + 2 + 4 + 8 + 32, x.fits(2, 2));
        // fewer HANDS behind more of them: the PAIRS of these alone
        Due.is("fits(1, 2) once more", 8, x.fits(1, 2));
        Due.is("fits(1, 1) once more", 8, x.fits(1, 1));
        Due.is("fits(0, 2) once more", NONE, x.fits(0, 2));
        x.saw(3, 0);
        // 2 and 3, who know nothing, may shake hands
        Due.is("fits(2, 2) without 3", 1 + 2 + 4 + 32, x.fits(2, 2));
        Due.is("fits(0, 2) without 3", 0, x.fits(0, 2));
        // one HAND again and again
        x = Due.told("people 2;knows 0 1;");
        x.saw(1, 2);
        for (int n = 0; n <= 4; n++) {
            Due.is("fits(" + n + ", 0)", n == 0 ? 0 : 1, x.fits(n, 0));
            Due.is("fits(" + n + ", 1)", n == 0 ? NONE : 1, x.fits(n, 1));
            Due.is("fits(" + n + ", 2)", n == 0 ? NONE : 1, x.fits(n, 2));
        }
        // the greatest PAIR
        x = Due.told("people 6;knows 4 1;");
        x.saw(5, 2);
        Due.is("fits(1, 1)", 1 << 14, x.fits(1, 1));
        for (int n = 0; n <= 4; n++) {
            for (int what = 0; what <= 2; what++) {
                Due.is("all bits of none SEEN", 0, Due.told("people 6;").fits(n, what) >>> 16);
            }
        }
        Twins.leaves(Twins.RICH, "fits(0, 2) of RICH", 0, y -> y.fits(0, 2));
        // each HAND there tells somebody something
        Twins.leaves(Twins.RICH, "fits(4, 2) of RICH", NONE, y -> y.fits(4, 2));
    }

    private static void fitsRefused() {
        for (int n : new int[] {-1, 5, 6, MIN, MAX}) {
            for (int what = 0; what <= 2; what++) {
                int it = what;
                Twins.leaves(Twins.RICH, "fits(" + n + ", " + what + ")", BAD, x -> x.fits(n, it));
            }
        }
        for (int what : new int[] {-1, 3, 10, MIN, MAX}) {
            Twins.leaves(Twins.RICH, "fits(0, " + what + ")", BAD, x -> x.fits(0, what));
        }
        // nobody can know THING 0
        for (int n = 0; n <= 4; n++) {
            int hands = n;
            Twins.leaves(EdgeSearchTests::unfit, "how many", 0, x -> x.fits(hands, 0));
            Twins.leaves(EdgeSearchTests::unfit, "in each", NONE, x -> x.fits(hands, 1));
            Twins.leaves(EdgeSearchTests::unfit, "in any", NONE, x -> x.fits(hands, 2));
        }
    }

    private static void unfit(Hands x) {
        Twins.RICH.accept(x);
        x.saw(0, 1);
    }

    private static void least() {
        for (int hands = 0; hands <= 5; hands++) {
            Hands x = Due.told(SIX);
            for (int p = 0; p < 6; p++) {
                x.saw(p, p <= hands ? 2 : 0);
            }
            Due.is("least() of " + hands, hands <= 4 ? hands : NONE, x.least());
        }
        // a HAND may set two right: six by three of them
        Hands two = Due.told("people 6;knows 0 1;knows 1 2;knows 2 3;knows 3 4;knows 4 5;knows 5 6;");
        for (int p = 0; p < 6; p++) {
            two.saw(p, 6 << p / 2 * 2);
        }
        Due.is("least(), two by two", 3, two.least());
        Due.is("fits(3, 0), two by two", 6, two.fits(3, 0));
        Due.is("fits(3, 1), two by two", 1 | 1 << 5 | 1 << 14, two.fits(3, 1));
        Twins.leaves(Twins.NEW, "least() of none", 0, x -> x.least());
        Twins.leaves(Twins.RICH, "least() of RICH", 0, x -> x.least());
        Twins.leaves(EdgeSearchTests::unfit, "least() of what can not be", NONE, x -> x.least());
    }

    // ---- seats, gloves

    private static void seatsSoThat() {
        // who knows it now may lose it, or keep it
        Hands x = Due.told("people 2;hold 1;knows 0 1;knows 1 2;");
        Due.is("to 0, who loses his", 2, x.seats(2, 0, 0));
        Due.is("to 1: it falls out", 0, x.seats(1, 1, 0));
        // all the others know it: any way in which he sits
        x = Due.told("knows 0 1;knows 1 1;");
        Due.is("to the only one", 6, x.seats(1, 2, 0));
        // one of two must not come to know it
        x = Due.told("people 4;knows 0 1;knows 1 1;");
        // only 3 2 0 1 and 3 2 1 0
        Due.is("to 2, not to 3", 2, x.seats(1, 2, 0));
        Due.is("SEAT 0", 3, x.seats(1, 2, 10));
        Due.is("SEAT 2", 0, x.seats(1, 2, 12));
        // with GLOVES: he who must not know it wears them, he who shall
        x = Due.told("knows 0 1;glove 2;");
        Due.is("not to 2", 4, x.seats(1, 1, 0));
        Due.is("to 2", 0, x.seats(1, 2, 0));
        Due.is("to 2, the first", NONE, x.seats(1, 2, 10));
        x = Due.told("knows 0 1;glove 0;");
        Due.is("of 0", 0, x.seats(1, 1, 0));
    }

    private static void seats() {
        for (int people = 2; people <= 6; people++) {
            // all but the last know it: all rows, and the first by numbers
            StringBuilder text = new StringBuilder("people " + people + ";");
            int ways = people;
            for (int p = 0; p < people - 1; p++) {
                text.append("knows ").append(p).append(" 1;");
                ways *= p + 1;
            }
            int last = people - 1;
            Twins.leaves(Twins.text(text.toString()), "how many of " + people, ways, x -> x.seats(1, last, 0));
            for (int i = 0; i < people; i++) {
                int seat = i;
                Twins.leaves(Twins.text(text.toString()), "SEAT " + i, i, x -> x.seats(1, last, 10 + seat));
            }
            Twins.leaves(Twins.text(text.toString()), "no such SEAT", BAD, x -> x.seats(1, last, 10 + last + 1));
            Twins.leaves(Twins.text(text.toString()), "no such SEAT", BAD, x -> x.seats(1, last, 9));
        }
        // the first by numbers, where 0 can not sit first
        int[] due = {1, 2, 3, 4, 5, 0};
        for (int i = 0; i < 6; i++) {
            int seat = i;
            Twins.leaves(Twins.text(SIX), "SEAT " + i, due[i], x -> x.seats(1, 5, 10 + seat));
        }
    }

    private static void seatsRefused() {
        for (int p : NO_ONE) {
            Twins.leaves(Twins.RICH, "ONE " + p, BAD, x -> x.seats(7, p, 0));
        }
        for (int thing : NO_THING) {
            Twins.leaves(Twins.RICH, "THING " + thing, BAD, x -> x.seats(thing, 0, 0));
        }
        for (int what : new int[] {-1, 1, 9, 14, 15, 16, MIN, MAX}) {
            Twins.leaves(Twins.RICH, "what " + what, BAD, x -> x.seats(7, 1, what));
        }
        Twins.leaves(Twins.RICH, "he knows it", STATE, x -> x.seats(7, 0, 0));
        // nobody knows THING 0
        Twins.leaves(Twins.RICH, "how many", 0, x -> x.seats(0, 0, 0));
        for (int i = 0; i < 4; i++) {
            int what = 10 + i;
            Twins.leaves(Twins.RICH, "he knows it", STATE, x -> x.seats(7, 0, what));
            Twins.leaves(Twins.RICH, "there are none", NONE, x -> x.seats(0, 0, what));
        }
    }

    private static void gloves() {
        // none needed; he himself; one ahead of him, the least
        String text = "people 6;knows 0 1;hand 0 1;hand 1 2;hand 2 3;hand 3 4;";
        int[][] due = {{5, 0, 0}, {1, 1, 1}, {4, 1, 1}};
        for (int[] d : due) {
            Twins.leaves(Twins.text(text), "gloves(1, " + d[0] + ", 0)", d[1], x -> x.gloves(1, d[0], 0));
            Twins.leaves(Twins.text(text), "gloves(1, " + d[0] + ", 1)", d[2], x -> x.gloves(1, d[0], 1));
        }
        // two who know it: the least of those who are on each way
        Twins.leaves(Twins.text(text + "knows 1 1;"), "those on each way", 2, x -> x.gloves(1, 4, 1));
        Twins.leaves(Twins.text(text + "knows 3 1;"), "those on each way", 8, x -> x.gloves(1, 4, 1));
        Twins.leaves(Twins.text(text + "knows 3 1;"), "how many", 1, x -> x.gloves(1, 4, 0));
        Twins.leaves(Twins.text(text + "hand 0 4;hand 1 4;hand 3 4;knows 1 1;knows 3 1;"), "only he himself", 16,
                x -> x.gloves(1, 4, 1));
        Twins.leaves(Twins.text("people 6;knows 0 1;knows 1 1;hand 0 5;hand 1 5;"), "the last of six", 32,
                x -> x.gloves(1, 5, 1));
        // besides those who do
        Twins.leaves(Twins.text(text + "glove 2;"), "who does already", 0, x -> x.gloves(1, 4, 0));
        Twins.leaves(Twins.text(text + "glove 2;"), "who does already", 0, x -> x.gloves(1, 4, 1));
        Twins.leaves(Twins.text(text + "glove 5;"), "who does besides", 1, x -> x.gloves(1, 4, 1));
        // without HANDS
        Twins.leaves(Twins.text("knows 0 1;"), "without HANDS", 0, x -> x.gloves(1, 1, 0));
        // he comes to know it and loses it again
        Twins.leaves(Twins.text("hold 1;knows 0 1;knows 2 2;hand 0 1;hand 1 2;"), "for a while", 0, x -> x.gloves(1, 1, 0));
        // with GLOVES of another he keeps it
        Twins.leaves(Twins.text("hold 1;knows 0 1;knows 2 2;hand 0 1;hand 1 2;glove 2;"), "he keeps it", 1,
                x -> x.gloves(1, 1, 1));
    }

    private static void glovesRefused() {
        for (int p : NO_ONE) {
            Twins.leaves(Twins.RICH, "ONE " + p, BAD, x -> x.gloves(7, p, 0));
        }
        for (int thing : NO_THING) {
            Twins.leaves(Twins.RICH, "THING " + thing, BAD, x -> x.gloves(thing, 0, 0));
        }
        for (int what : new int[] {-1, 2, 10, MIN, MAX}) {
            Twins.leaves(Twins.RICH, "what " + what, BAD, x -> x.gloves(7, 1, what));
        }
        Twins.leaves(Twins.RICH, "he knows it now", STATE, x -> x.gloves(7, 0, 0));
        Twins.leaves(Twins.RICH, "he knows it now", STATE, x -> x.gloves(7, 0, 1));
        // there is always a way: his own GLOVES
        for (int p = 1; p < 6; p++) {
            int one = p;
            String text = "people 6;knows 0 1;hand 0 1;hand 0 2;hand 0 3;hand 0 4;hand 0 5;"
                    + "hand 1 2;hand 2 3;hand 3 4;hand 4 5;hand 1 5;";
            Twins.leaves(Twins.text(text + "knows 1 2;knows 2 2;"), "one is enough", 1, x -> x.gloves(1, one, 0));
        }
    }
}
