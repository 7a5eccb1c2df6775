/** The edges of promises 9 to 17: letters in thought. */
public final class EdgesOfLettersTest extends Edges {
    /** No pairs of agency(): each has one of both that is none. */
    private static final int[] NO_PAIRS = {-1, -10, -11, 3, 7, 8, 9, 13, 23, 29, 30, 33, 80, 99, 100, 110, MIN, MAX};
    private static final int[] NO_SHELVES = {-1, 6, MIN, MAX};

    /** WRITERS with HANDS 0 and 12, a MACHINE with PULLS 6, and a GRIP of 12: what SHOWS is what PULLS are. */
    private static TypewritersKnow plain() {
        TypewritersKnow x = with(1, code(0, 0, 0), code(12, 12, 12));
        tell(x, "12");
        return x;
    }

    // ---- 9: shows

    @Says("wm: 10 times the WRITER, and the MACHINE")
    static void p09_badNoSuchPair() {
        for (int wm : NO_PAIRS) {
            still(BAD, "shows(" + wm + ", 0, 0)", x -> x.shows(wm, 0, 0));
            still(BAD, "shows(" + wm + ", 0, 1)", x -> x.shows(wm, 0, 1));
        }
        still(6, "the last pair", x -> x.shows(22, 2, 0));
        due("a machine, nobody", with(1).shows(0, 0, 0), BAD);
        due("nothing, a writer", with(0, 0).shows(0, 0, 0), BAD);
    }

    @Says("wm: 10 times the WRITER, and the MACHINE")
    static void p09_allPairsOfEightAndEight() {
        String[] laws = {"t", "m", "0", "12"};
        for (int law = 0; law < laws.length; law++) {
            TypewritersKnow x = with(8, 0, 0, 0, 0, 0, 0, 0, 0);
            for (int i = 0; i < 8; i++) {
                x.mend(i, 0, i + 4);
                x.mend(i, 4, i + 2);
                x.mend(i, 7, i + 1);
            }
            tell(x, laws[law]);
            for (int wm = 0; wm < 80; wm++) {
                int[] due = {wm / 10 + 1, wm % 10, wm / 10 + 2, wm % 10 + 4};
                due(laws[law] + " of " + wm, x.shows(wm, 0, law < 2 ? 1 : 0), wm % 10 < 8 ? due[law] : BAD);
            }
        }
    }

    @Says("HABITS are 0 commas, 1 dears, 2 capitals.")
    static void p09_badNoSuchHabit() {
        still(BAD, "habit -1", x -> x.shows(0, -1, 0));
        still(BAD, "habit 3", x -> x.shows(0, 3, 0));
        still(BAD, "least habit", x -> x.shows(0, MIN, 1));
        still(BAD, "most habit", x -> x.shows(0, MAX, 1));
        still(3, "habit 0", x -> x.shows(0, 0, 1));
        still(5, "habit 2", x -> x.shows(0, 2, 1));
    }

    @Says("What a LETTER would SHOW in a HABIT (what 0), its GRIP there (1). BAD.")
    static void p09_badNoSuchWhat() {
        still(BAD, "what -1", x -> x.shows(0, 0, -1));
        still(BAD, "what 2", x -> x.shows(0, 0, 2));
        still(BAD, "most what", x -> x.shows(0, 0, MAX));
    }

    private static int shown(int hand, int pull, int grip) {
        TypewritersKnow x = with(1, code(hand, 0, 0));
        x.mend(0, 0, pull);
        tell(x, String.valueOf(grip));
        return x.shows(0, 0, 0);
    }

    @Says("HAND times 12 less GRIP, and PULL times GRIP, together by 12 (cut).")
    static void p09_showsIsCut() {
        due("11 by 12", shown(0, 1, 11), 0);
        due("12 by 12", shown(0, 1, 12), 1);
        due("11 by 12", shown(1, 0, 1), 0);
        due("12 by 12", shown(1, 0, 0), 1);
        due("143 by 12", shown(12, 11, 1), 11);
        due("24 by 12", shown(0, 12, 2), 2);
        due("23 by 12", shown(1, 2, 11), 1);
    }

    @Says("HAND times 12 less GRIP, and PULL times GRIP, together by 12 (cut).")
    static void p09_gripOf0And12() {
        due("grip 0 shows HAND", shown(12, 0, 0), 12);
        due("grip 0 shows HAND", shown(0, 12, 0), 0);
        due("grip 12 shows PULL", shown(12, 0, 12), 0);
        due("grip 12 shows PULL", shown(0, 12, 12), 12);
        due("a grip held to 12", shown(0, 12, 99), 12);
        due("all are 12", shown(12, 12, 7), 12);
        due("all are 0", shown(0, 0, 7), 0);
    }

    // ---- 10: later

    @Says("Behind n (0 .. 30) LETTERS")
    static void p10_nIsFrom0To30() {
        still(BAD, "n -1", x -> x.later(DAY, -1, 0, 0));
        still(BAD, "n 31", x -> x.later(DAY, 31, 0, 0));
        still(BAD, "least n", x -> x.later(DAY, MIN, 0, 0));
        still(BAD, "most n", x -> x.later(DAY, MAX, 0, 0));
        still(6, "n 0", x -> x.later(DAY, 0, 0, 0));
        still(5, "n 30", x -> x.later(DAY, 30, 0, 0));
        TypewritersKnow x = plain();
        x.row(0, BYTES, 60);
        due("n 29 of 30", x.later(0, 29, 0, 3), 29);
        due("n 30 of 30", x.later(0, 30, 0, 3), 30);
    }

    @Says("PULL in HABITS 0, 1, 2 (what 0, 1, 2), AGE (3) of a MACHINE.")
    static void p10_badNoSuchMachineOrWhat() {
        still(BAD, "machine 3", x -> x.later(DAY, 1, 3, 0));
        still(BAD, "machine -1", x -> x.later(DAY, 1, -1, 0));
        still(BAD, "most machine", x -> x.later(DAY, 1, MAX, 0));
        still(BAD, "what -1", x -> x.later(DAY, 1, 0, -1));
        still(BAD, "what 4", x -> x.later(DAY, 1, 0, 4));
        still(BAD, "most what", x -> x.later(DAY, 1, 0, MAX));
        still(99, "machine 2, what 3", x -> x.later(DAY, 1, 2, 3));
    }

    @Says("a DAY on a SHELF: BAD, -11, -12 (no ROW of bytes)")
    static void p10_aShelfWithoutADay() {
        for (int shelf : NO_SHELVES) {
            still(BAD, "shelf " + shelf, x -> x.later(shelf, 0, 0, 0));
        }
        still(NOTHING, "nothing", x -> x.later(EMPTY, 0, 0, 0));
        still(KIND, "shorts", x -> x.later(BOOK, 0, 0, 0));
        still(KIND, "longs", x -> x.later(LONG_ROW, 0, 0, 0));
        still(KIND, "a ghost", x -> x.later(GHOST, 0, 0, 0));
        TypewritersKnow x = plain();
        x.row(0, INTS, 2);
        x.row(5, BOOLEANS, 2);
        due("ints", x.later(0, 0, 0, 0), KIND);
        due("booleans", x.later(5, 0, 0, 0), KIND);
    }

    @Says("Answers, of several the one named first: BAD (-1)")
    static void p10_badAheadOfTheShelf() {
        still(BAD, "n 31, nothing", x -> x.later(EMPTY, 31, 0, 0));
        still(BAD, "machine 3, nothing", x -> x.later(EMPTY, 0, 3, 0));
        still(BAD, "what 4, shorts", x -> x.later(BOOK, 0, 0, 4));
        still(BAD, "n -1, a ghost", x -> x.later(GHOST, -1, 0, 0));
    }

    @Says("behind n LETTERS of a DAY (all, if it has fewer)")
    static void p10_allIfItHasFewer() {
        still(5, "n 1", x -> x.later(DAY, 1, 0, 0));
        still(40, "n 1, the second's machine", x -> x.later(DAY, 1, 1, 3));
        still(41, "n 2, the second's machine", x -> x.later(DAY, 2, 1, 3));
        still(11, "n 3", x -> x.later(DAY, 3, 2, 0));
        still(11, "n 4", x -> x.later(DAY, 4, 2, 0));
        TypewritersKnow x = plain();
        x.row(0, BYTES, 0);
        due("none of none", x.later(0, 30, 0, 0), 6);
        fill(x, 0, BYTES, 0, 0, 2, 0, 0, 0);
        due("up to the first that is none", x.later(0, 30, 0, 3), 1);
    }

    @Says("each PULL is one nearer to that HAND (if they are unlike)")
    static void p10_aPullLikeTheHandStays() {
        TypewritersKnow x = with(1, code(0, 12, 6));
        pulls(x, 0, 1, 11, 6);
        fill(x, 0, BYTES, 0, 0, 0, 0, 0, 0);
        int[][] due = {{1, 11, 6}, {0, 12, 6}, {0, 12, 6}, {0, 12, 6}};
        for (int n = 0; n < 4; n++) {
            for (int habit = 0; habit < 3; habit++) {
                due("habit " + habit + " behind " + n, x.later(0, n, 0, habit), due[n][habit]);
            }
        }
    }

    @Says("AGE is one more (99 at most).")
    static void p10_ageIs99AtMost() {
        TypewritersKnow x = plain();
        x.mend(0, 3, 97);
        x.row(0, BYTES, 60);
        due("behind 1", x.later(0, 1, 0, 3), 98);
        due("behind 2", x.later(0, 2, 0, 3), 99);
        due("behind 3", x.later(0, 3, 0, 3), 99);
        due("behind 30", x.later(0, 30, 0, 3), 99);
    }

    // ---- 11: letter

    @Says("What the k-th LETTER SHOWS (as a code); how many there are (k -1).")
    static void p11_kIsFromMinus1() {
        still(BAD, "k -2", x -> x.letter(DAY, -2));
        still(BAD, "least k", x -> x.letter(DAY, MIN));
        still(3, "k -1", x -> x.letter(DAY, -1));
    }

    @Says("NOT: there are not as many.")
    static void p11_notAsMany() {
        still(NOT, "k 3 of 3", x -> x.letter(DAY, 3));
        still(NOT, "k 4 of 3", x -> x.letter(DAY, 4));
        still(NOT, "most k", x -> x.letter(DAY, MAX));
        still(NOT, "k 1 << 30", x -> x.letter(DAY, 1 << 30));
        // GRIPS 3 4 5. WRITER 0 on MACHINE 0: HANDS 0 12 6, PULLS 6 6 6: 18, 120 and 72 by 12.
        still(code(1, 10, 6), "k 0 of 3", x -> x.letter(DAY, 0));
        // WRITER 1 on MACHINE 1: HANDS 12 0 3, PULLS 0 12 3: 108, 48 and 36 by 12.
        still(code(9, 4, 3), "k 1 of 3", x -> x.letter(DAY, 1));
        // WRITER 2 on MACHINE 2: HANDS 6 6 6, PULLS 12 1 7: 90, 52 and 77 by 12.
        still(code(7, 4, 6), "k 2 of 3", x -> x.letter(DAY, 2));
        TypewritersKnow x = plain();
        x.row(0, BYTES, 0);
        due("k 0 of none", x.letter(0, 0), NOT);
        due("how many are none", x.letter(0, -1), 0);
    }

    @Says("one behind the other (30 at most;")
    static void p11_thirtyAtMost() {
        TypewritersKnow x = plain();
        x.row(0, BYTES, 60);
        due("how many", x.letter(0, -1), 30);
        due("k 29", x.letter(0, 29), 0);
        due("k 30", x.letter(0, 30), NOT);
    }

    @Says("it ends where the row ends, within a two, too")
    static void p11_endsWithinATwo() {
        TypewritersKnow x = plain();
        int[][] rows = {{0, 0}, {1, 0}, {2, 1}, {3, 1}, {58, 29}, {59, 29}, {60, 30}};
        for (int[] row : rows) {
            x.row(0, BYTES, row[0]);
            due("a row of " + row[0], x.letter(0, -1), row[1]);
            due("the first that is not there", x.letter(0, row[1]), NOT);
        }
    }

    @Says("or one of both is none")
    static void p11_endsWhereOneIsNone() {
        int[] none = {2, 8, -1, 127, -128};
        for (int number : none) {
            TypewritersKnow x = plain();
            fill(x, 0, BYTES, 0, 0, number, 0, 0, 0);
            due("writer " + number, x.letter(0, -1), 1);
            due("the letter itself", x.letter(0, 1), NOT);
            due("the one behind it", x.letter(0, 2), NOT);
            fill(x, 0, BYTES, 0, 0, 0, 0, 1, number == 2 ? 1 : number);
            due("machine " + number, x.letter(0, -1), 2);
            due("the letter itself", x.letter(0, 2), NOT);
            fill(x, 0, BYTES, number, 0, 0, 0);
            due("none at first", x.letter(0, -1), 0);
        }
    }

    @Says("What the k-th LETTER SHOWS (as a code)")
    static void p11_theLeastAndTheLastCode() {
        TypewritersKnow x = plain();
        fill(x, 0, BYTES, 0, 0, 0, 0, 0, 0, 0, 0, 0, 0, 0, 0, 0, 0, 1, 0);
        due("six behind", x.letter(0, 6), 0);
        due("nobody's way further", x.letter(0, 7), 0);
        x.row(0, BYTES, 60);
        for (int i = 0; i < 60; i += 2) {
            x.put(0, i, 1);
        }
        due("five behind", x.letter(0, 5), code(11, 11, 11));
        due("six behind", x.letter(0, 6), 2196);
        due("twenty-nine behind", x.letter(0, 29), 2196);
    }

    @Says("a DAY on a SHELF: BAD, -11, -12 (no ROW of bytes)")
    static void p11_aShelfWithoutADay() {
        for (int shelf : NO_SHELVES) {
            still(BAD, "shelf " + shelf, x -> x.letter(shelf, -1));
        }
        int[] ks = {-1, 0, 40};
        for (int k : ks) {
            still(NOTHING, "nothing, k " + k, x -> x.letter(EMPTY, k));
            still(KIND, "shorts, k " + k, x -> x.letter(BOOK, k));
            still(KIND, "longs, k " + k, x -> x.letter(LONG_ROW, k));
            still(KIND, "a ghost, k " + k, x -> x.letter(GHOST, k));
        }
        still(BAD, "nothing, k -2", x -> x.letter(EMPTY, -2));
        still(BAD, "shorts, k -2", x -> x.letter(BOOK, -2));
    }

    // ---- 12: still

    @Says("behind how many rounds of the DAY (0 .. 99) the first round comes that leaves all PULLS as they were")
    static void p12_noRoundsIfTheFirstLeavesAll() {
        TypewritersKnow x = plain();
        x.row(0, BYTES, 0);
        due("no letters", x.still(0), 0);
        x.row(0, BYTES, 1);
        due("half a letter", x.still(0), 0);
        fill(x, 0, BYTES, 0, 0, 1, 0);
        due("there and back within a round", x.still(0), 0);
        TypewritersKnow like = with(1, code(6, 6, 6));
        like.row(0, BYTES, 60);
        due("like hands: AGE is no PULL", like.still(0), 0);
    }

    @Says("the first round comes that leaves all PULLS as they were (NOT by 99)")
    static void p12_allPullsOfAllMachinesCount() {
        for (int machine = 0; machine < 2; machine++) {
            for (int habit = 0; habit < 3; habit++) {
                TypewritersKnow x = with(2, code(6, 6, 6));
                x.mend(machine, habit, 7);
                fill(x, 0, BYTES, 0, 0, 0, 1);
                due("machine " + machine + ", habit " + habit, x.still(0), 1);
            }
        }
    }

    @Says("the first round comes that leaves all PULLS as they were (NOT by 99)")
    static void p12_allPullsOfEightMachines() {
        TypewritersKnow x = with(8, code(6, 6, 6));
        x.row(0, BYTES, 16);
        for (int machine = 0; machine < 8; machine++) {
            x.put(0, 2 * machine + 1, machine);
        }
        due("none moves", x.still(0), 0);
        x.mend(7, 2, 12);
        due("the last PULL of all moves", x.still(0), 6);
        x.row(0, BYTES, 14);
        due("nobody types on it", x.still(0), 0);
    }

    /** Each PULL goes one way only, so no DAY needs more than 12 rounds: NOT never comes. */
    @Says("(0 .. 99) the first round comes that leaves all PULLS as they were (NOT by 99)")
    static void p12_twelveRoundsAreTheMost() {
        TypewritersKnow x = plain();
        pulls(x, 0, 12, 12, 12);
        fill(x, 0, BYTES, 0, 0);
        due("twelve", x.still(0), 12);
        fill(x, 0, BYTES, 0, 0, 0, 0, 1, 0);
        // One down by each round, till 1 goes to 0 and back to 1 within it.
        due("eleven", x.still(0), 11);
        x.row(0, BYTES, 60);
        due("one", x.still(0), 1);
    }

    @Says("a DAY on a SHELF: BAD, -11, -12 (no ROW of bytes)")
    static void p12_aShelfWithoutADay() {
        for (int shelf : NO_SHELVES) {
            still(BAD, "shelf " + shelf, x -> x.still(shelf));
        }
        still(NOTHING, "nothing", x -> x.still(EMPTY));
        still(KIND, "shorts", x -> x.still(BOOK));
        still(KIND, "longs", x -> x.still(LONG_ROW));
        still(KIND, "a ghost", x -> x.still(GHOST));
        still(12, "a day", x -> x.still(DAY));
    }

    // ---- 13: far

    @Says("FAR. BAD.")
    static void p13_badNoSuchPair() {
        for (int wm : NO_PAIRS) {
            still(BAD, "far(" + wm + ")", x -> x.far(wm));
        }
        due("a machine, nobody", with(1).far(0), BAD);
        due("nothing, a writer", with(0, 0).far(0), BAD);
        due("the last of all", with(8, 0, 0, 0, 0, 0, 0, 0, 0).far(77), 18);
        due("none of all", with(8, 0, 0, 0, 0, 0, 0, 0, 0).far(78), BAD);
    }

    @Says("all three HABITS, HAND and PULL apart, together")
    static void p13_leastAndMost() {
        TypewritersKnow x = with(1, code(12, 12, 12), code(0, 0, 0), code(6, 6, 6), code(5, 7, 6));
        due("like", x.far(20), 0);
        due("below and above", x.far(30), 2);
        pulls(x, 0, 0, 0, 0);
        due("most", x.far(0), 36);
        pulls(x, 0, 12, 12, 12);
        due("most", x.far(10), 36);
        due("like", x.far(0), 0);
    }

    // ---- 14: nearest

    @Says("(of like ones the least)")
    static void p14_ofLikeOnesTheLeast() {
        due("machine of eight", with(8, 0).nearest(0, 0), 0);
        due("writer of eight", with(1, 0, 0, 0, 0, 0, 0, 0, 0).nearest(0, 1), 0);
        TypewritersKnow x = with(3, code(6, 6, 6), code(5, 6, 6), code(6, 7, 6));
        x.mend(0, 0, 9);
        x.mend(1, 1, 7);
        x.mend(2, 2, 5);
        due("machines 1 and 2 are both 1 from writer 0", x.nearest(0, 0), 1);
        x.mend(1, 1, 8);
        due("machine 2 alone", x.nearest(0, 0), 2);
        x.mend(0, 0, 12);
        x.mend(0, 4, 5);
        due("all writers are like", x.nearest(2, 1), 0);
        x.mend(2, 2, 6);
        x.mend(2, 1, 7);
        due("the last writer", x.nearest(2, 1), 2);
    }

    @Says("NOT: there is none.")
    static void p14_notThereIsNone() {
        still(NOT, "no machines", () -> with(0, 0), x -> x.nearest(0, 0));
        still(NOT, "no writers", () -> with(1), x -> x.nearest(0, 1));
    }

    @Says("NEAREST to a WRITER (what 0), to a MACHINE (1). BAD; NOT.")
    static void p14_badNoSuch() {
        int[] none = {-1, 3, 8, MIN, MAX};
        for (int one : none) {
            still(BAD, "writer " + one, x -> x.nearest(one, 0));
            still(BAD, "machine " + one, x -> x.nearest(one, 1));
        }
        still(BAD, "what -1", x -> x.nearest(0, -1));
        still(BAD, "what 2", x -> x.nearest(0, 2));
        still(BAD, "most what", x -> x.nearest(0, MAX));
        still(0, "the last writer", x -> x.nearest(2, 0));
        still(1, "the last machine", x -> x.nearest(2, 1));
    }

    @Says("Answers, of several the one named first: BAD (-1)")
    static void p14_badAheadOfNot() {
        due("no writer, no machine", new TypewritersKnow().nearest(0, 0), BAD);
        due("no machine, no writer", new TypewritersKnow().nearest(0, 1), BAD);
        due("writer 1 of one, no machine", with(0, 0).nearest(1, 0), BAD);
        due("machine 1 of one, no writer", with(1).nearest(1, 1), BAD);
        due("what 2, no machine", with(0, 0).nearest(0, 2), BAD);
    }

    // ---- 15: given

    @Says("as many WRITERS as MACHINES at most, else STATE")
    static void p15_asManyWritersAsMachinesAtMost() {
        still(STATE, "1 and 0", () -> with(0, 0), x -> x.given(-1));
        still(STATE, "1 and 0, k 0", () -> with(0, 0), x -> x.given(0));
        still(STATE, "3 and 2", () -> with(2, 0, 1, 2), x -> x.given(2));
        still(18, "1 and 1", () -> with(1, 0), x -> x.given(-1));
        still(STATE, "8 and 7", () -> with(7, 0, 1, 2, 3, 4, 5, 6, 7), x -> x.given(7));
        still(7, "8 and 8", () -> with(8, 0, 0, 0, 0, 0, 0, 0, 0), x -> x.given(7));
        still(0, "0 and 8", () -> with(8), x -> x.given(-1));
        still(0, "0 and 0", () -> with(0), x -> x.given(-1));
    }

    @Says("GIVEN: that (k -1), which the k-th gets. BAD; STATE.")
    static void p15_badNoSuchK() {
        still(BAD, "k -2", x -> x.given(-2));
        still(BAD, "k 3 of 3", x -> x.given(3));
        still(BAD, "least k", x -> x.given(MIN));
        still(BAD, "most k", x -> x.given(MAX));
        due("k 0 of nobody", with(8).given(0), BAD);
        due("k 8 of 8", with(8, 0, 0, 0, 0, 0, 0, 0, 0).given(8), BAD);
    }

    @Says("Answers, of several the one named first: BAD (-1)")
    static void p15_badAheadOfState() {
        still(BAD, "k 1 of 1, no machines", () -> with(0, 0), x -> x.given(1));
        still(BAD, "k -2, no machines", () -> with(0, 0), x -> x.given(-2));
    }

    @Says("each of the WRITERS gets a MACHINE, no two the same one")
    static void p15_noTwoTheSame() {
        TypewritersKnow x = with(8, 0, 0, 0, 0, 0, 0, 0, 0);
        for (int i = 0; i < 8; i++) {
            x.mend(i, 0, i + 1);
            x.mend(i, 4, 8 - i);
            x.mend(i, 5, 6);
            x.mend(i, 6, 6);
        }
        due("all", x.given(-1), 0);
        for (int k = 0; k < 8; k++) {
            due("k " + k, x.given(k), 7 - k);
        }
    }

    @Says("all FAR together least: that")
    static void p15_notTheNearestOneByOne() {
        // HANDS 6 and 0, PULLS 5 and 8: 1 and 8 one by one, 2 and 5 crossed over.
        TypewritersKnow x = with(2, code(6, 6, 6), code(0, 6, 6));
        x.mend(0, 0, 5);
        x.mend(1, 0, 8);
        due("all", x.given(-1), 7);
        due("first", x.given(0), 1);
        due("second", x.given(1), 0);
    }

    @Says("(of like ones the first by numbers, WRITER by WRITER)")
    static void p15_ofLikeOnesTheFirst() {
        TypewritersKnow x = with(4, 0, 0, 0);
        for (int k = 0; k < 3; k++) {
            due("all like, k " + k, x.given(k), k);
        }
        // HANDS 7 and 7, PULLS 8 and 6: 2 together either way.
        TypewritersKnow y = with(2, code(7, 6, 6), code(7, 6, 6));
        y.mend(0, 0, 8);
        due("all", y.given(-1), 2);
        due("first", y.given(0), 0);
        due("second", y.given(1), 1);
        // HANDS 6 and 0, PULLS 0 and 6: only crossed over it is least.
        TypewritersKnow z = with(2, code(6, 6, 6), code(0, 6, 6));
        z.mend(0, 0, 0);
        due("all", z.given(-1), 0);
        due("first", z.given(0), 1);
        due("second", z.given(1), 0);
    }

    // ---- 16: teach

    @Says("hv: 100 times the HABIT, and v")
    static void p16_badNoSuchHabitOrV() {
        int[] none = {-1, 13, 99, -100, 113, 199, 213, 299, 300, 312, 1000, MIN, MAX};
        for (int hv : none) {
            still(BAD, "hv " + hv, x -> x.teach(0, hv));
        }
        int[] least = {0, 100, 200};
        int[] most = {12, 112, 212};
        TypewritersKnow x = plain();
        for (int habit = 0; habit < 3; habit++) {
            due("v 0", x.teach(0, least[habit]), 6);
            due("v 12", x.teach(10, most[habit]), 6);
        }
    }

    @Says("hv: 100 times the HABIT, and v")
    static void p16_eachHabitOfEachPair() {
        // WRITER 1 on MACHINE 2: 12, 1, 7 to 12, 0, 3. WRITER 2 on MACHINE 1: 0, 12, 3 to 6, 6, 6.
        int[][] rows = {{12, 12, 0}, {12, 11, NOT}, {12, 100, 1}, {12, 102, NOT}, {12, 203, 4}, {12, 202, NOT}, {12, 200, NOT},
            {21, 6, 6}, {21, 7, NOT}, {21, 106, 6}, {21, 112, 0}, {21, 206, 3}, {21, 202, NOT}};
        for (int[] row : rows) {
            still(row[2], "teach(" + row[0] + ", " + row[1] + ")", x -> x.teach(row[0], row[1]));
        }
    }

    @Says("wm: 10 times the WRITER, and the MACHINE")
    static void p16_theLastPairOfEightAndEight() {
        TypewritersKnow x = with(8, 0, 0, 0, 0, 0, 0, 0, code(0, 9, 0));
        x.mend(7, 1, 2);
        due("writer 7, machine 7", x.teach(77, 109), 7);
        due("writer 6, machine 7", x.teach(67, 109), NOT);
        due("writer 7, machine 0", x.teach(70, 109), 3);
        due("no machine 8", x.teach(78, 109), BAD);
        due("no writer 8", x.teach(87, 109), BAD);
    }

    @Says("TEACH (hv: 100 times the HABIT, and v). BAD; NOT.")
    static void p16_badNoSuchPair() {
        for (int wm : NO_PAIRS) {
            still(BAD, "teach(" + wm + ", 0)", x -> x.teach(wm, 0));
        }
    }

    @Says("TEACH: the fewest LETTERS (0 .. 30) by a WRITER behind which PULL of a MACHINE in a HABIT is v; NOT.")
    static void p16_noneAndTheMost() {
        TypewritersKnow x = plain();
        due("none", x.teach(0, 6), 0);
        pulls(x, 0, 12, 12, 0);
        due("none", x.teach(0, 12), 0);
        due("twelve, the most", x.teach(0, 0), 12);
        due("twelve, the most", x.teach(10, 212), 12);
        due("eleven", x.teach(0, 101), 11);
    }

    @Says("behind which PULL of a MACHINE in a HABIT is v; NOT.")
    static void p16_notIfItIsNever() {
        TypewritersKnow x = with(1, code(4, 8, 6));
        due("the hand itself", x.teach(0, 4), 2);
        due("one behind the hand", x.teach(0, 3), NOT);
        due("one the other way", x.teach(0, 7), NOT);
        due("the hand itself", x.teach(0, 108), 2);
        due("one behind the hand", x.teach(0, 109), NOT);
        due("one the other way", x.teach(0, 105), NOT);
        due("like the hand", x.teach(0, 206), 0);
        due("beside it", x.teach(0, 205), NOT);
        still(NOT, "in thought", y -> y.teach(0, 7));
    }

    // ---- 17: bring

    @Says("BRING a MACHINE to PULLS (a code)")
    static void p17_badNoSuchMachineOrCode() {
        int[] none = {-1, 3, 8, MIN, MAX};
        for (int machine : none) {
            still(BAD, "machine " + machine, x -> x.bring(machine, 0, -1));
        }
        int[] noCodes = {-1, 2197, MIN, MAX};
        for (int code : noCodes) {
            still(BAD, "code " + code, x -> x.bring(0, code, -1));
        }
        TypewritersKnow x = plain();
        due("code 0", x.bring(0, 0, -1), 6);
        due("code 2196", x.bring(0, 2196, -1), 6);
        due("its first", x.bring(0, 2196, 0), 1);
        pulls(x, 0, 0, 0, 0);
        due("from 0 to 0", x.bring(0, 0, -1), 0);
        due("from 0 to 2196", x.bring(0, 2196, -1), 12);
        due("its last", x.bring(0, 2196, 11), 1);
        pulls(x, 0, 12, 12, 12);
        due("from 2196 to 2196", x.bring(0, 2196, -1), 0);
        due("from 2196 to 0", x.bring(0, 0, -1), 12);
        due("its last", x.bring(0, 0, 11), 0);
        pulls(x, 0, 6, 6, 6);
        TypewritersKnow up = with(1, 2196);
        pulls(up, 0, 0, 0, 0);
        due("from 0 to 0, nobody leads there", up.bring(0, 0, -1), 0);
        due("its last", x.bring(0, 2196, 5), 1);
    }

    @Says("how many (k -1), who types the k-th (NOT: there are not as many, too). BAD; NOT.")
    static void p17_kIsFromMinus1() {
        still(BAD, "k -2", x -> x.bring(0, code(6, 6, 6), -2));
        still(BAD, "least k", x -> x.bring(0, code(6, 6, 6), MIN));
        still(NOT, "k 0 of none", x -> x.bring(0, code(6, 6, 6), 0));
        still(NOT, "most k", x -> x.bring(0, code(6, 6, 6), MAX));
        TypewritersKnow x = plain();
        due("k 5 of 6", x.bring(0, 0, 5), 0);
        due("k 6 of 6", x.bring(0, 0, 6), NOT);
    }

    @Says("BRING a MACHINE to PULLS (a code)")
    static void p17_eachHabitOfTheLastMachine() {
        // MACHINE 2 has 12 1 7: WRITERS 0 and 2 lead to 11 2 6, WRITER 1 to 12 0 6. MACHINE 1 has 0 12 3.
        still(0, "as it is", x -> x.bring(2, code(12, 1, 7), -1));
        still(1, "one", x -> x.bring(2, code(11, 2, 6), -1));
        still(0, "by the first", x -> x.bring(2, code(11, 2, 6), 0));
        still(1, "by the second", x -> x.bring(2, code(12, 0, 6), 0));
        still(2, "by the third", x -> x.bring(1, code(1, 11, 4), 0));
    }

    @Says("NOT: never.")
    static void p17_notIfItIsNever() {
        still(NOT, "never", x -> x.bring(0, code(6, 6, 12), -1));
        still(NOT, "never, k 0", x -> x.bring(0, code(6, 6, 12), 0));
        still(NOT, "behind where it came from", () -> with(1, 2196), x -> x.bring(0, code(1, 1, 1), -1));
        still(NOT, "one the other way", () -> with(1, 2196), x -> x.bring(0, code(5, 5, 5), -1));
        still(NOT, "one the other way, k 0", () -> with(1, 2196), x -> x.bring(0, code(5, 5, 5), 0));
        still(NOT, "not by one of eight", () -> with(1, 2196, 0, 2196, 0, 2196, 0, 2196, 0), x -> x.bring(0, code(6, 6, 5), -1));
        still(0, "nobody, as it is", () -> with(1), x -> x.bring(0, code(6, 6, 6), -1));
        still(NOT, "nobody, one beside", () -> with(1), x -> x.bring(0, code(6, 6, 5), -1));
        still(NOT, "nobody, as it is, k 0", () -> with(1), x -> x.bring(0, code(6, 6, 6), 0));
    }

    @Says("Answers, of several the one named first: BAD (-1)")
    static void p17_badAheadOfNot() {
        still(BAD, "never, k -2", x -> x.bring(0, code(6, 6, 12), -2));
        due("nobody, k -2", with(1).bring(0, code(6, 6, 5), -2), BAD);
    }

    @Says("(of like ones the first by numbers, LETTER by LETTER)")
    static void p17_ofLikeOnesTheFirst() {
        // The second and the third are like: 6 6 6, 7 7 6, 8 8 6.
        TypewritersKnow x = with(1, code(12, 6, 6), code(12, 12, 6), code(12, 12, 6));
        due("how many", x.bring(0, code(8, 8, 6), -1), 2);
        due("first", x.bring(0, code(8, 8, 6), 0), 1);
        due("second", x.bring(0, code(8, 8, 6), 1), 1);
        // Behind the second one the first would lead 7 back to 6.
        due("how many", x.bring(0, code(8, 7, 6), -1), 2);
        due("first", x.bring(0, code(8, 7, 6), 0), 0);
        due("second", x.bring(0, code(8, 7, 6), 1), 1);
        TypewritersKnow y = with(1, code(7, 6, 6), code(7, 7, 6), code(7, 7, 7), code(7, 7, 7));
        due("how many", y.bring(0, code(7, 7, 7), -1), 1);
        due("the third", y.bring(0, code(7, 7, 7), 0), 2);
        // Two letters: 12 12 0 by the first and 12 0 12 by the second in either order come to 8 6 6.
        TypewritersKnow z = with(1, code(12, 12, 0), code(12, 0, 12));
        due("how many", z.bring(0, code(8, 6, 6), -1), 2);
        due("first", z.bring(0, code(8, 6, 6), 0), 0);
        due("second", z.bring(0, code(8, 6, 6), 1), 1);
    }

    public static void main(String[] args) throws Exception {
        run(EdgesOfLettersTest.class, 9, 17);
    }
}
