/** The edges of promises 38 to 47: ghosts, their acts, shelves, rows, how many. */
public final class EdgesOfShelvesTest extends Edges {
    private static final int[] NO_SHELVES = {-1, 6, MIN, MAX};
    private static final long[] NONE = {};

    private static TypewritersKnow ghosts(int many) {
        TypewritersKnow x = new TypewritersKnow();
        for (int i = 0; i < many; i++) {
            x.body(i % 8);
        }
        return x;
    }

    // ---- 38: body

    @Says("A GHOST of a KIND (0 .. 7) is kept: its number. BAD, FULL.")
    static void p38_kindsAreFrom0To7() {
        int[] none = {-1, 8, MIN, MAX};
        for (int kind : none) {
            still(BAD, "kind " + kind, x -> x.body(kind));
            still(BAD, "kind " + kind + ", full", () -> ghosts(50), x -> x.body(kind));
        }
        TypewritersKnow x = new TypewritersKnow();
        due("kind 0", x.body(0), 0);
        due("kind 7", x.body(7), 1);
        x.keep(0, 0);
        x.keep(1, 1);
        due("is a GHOST", x.taken(0, 0), 0);
        due("is DROWNED", x.taken(1, 7), 7);
    }

    @Says("GHOSTS' ways are kept by call as BODIES 0 .. 49")
    static void p38_fullAtFifty() {
        TypewritersKnow x = new TypewritersKnow();
        for (int i = 0; i <= 49; i++) {
            due("body", x.body(i % 8), i);
        }
        due("the fifty-first", x.body(3), FULL);
        due("count(4)", x.count(4), 50);
        due("act of the last", x.act(49, 0, 0), 52);
        due("no such", x.act(50, 0, 0), 0);
        still(FULL, "full", () -> ghosts(50), y -> y.body(0));
    }

    // ---- 39: act

    @Says("0, and no TRACE then: no such GHOST, ACT.")
    static void p39_noSuchGhost() {
        int[] none = {-1, 3, 50, MIN, MAX};
        for (int body : none) {
            for (int act = 0; act <= 3; act++) {
                TypewritersKnow x = agency();
                due("trace ahead", x.count(5), 14);
                due("act(" + body + ", " + act + ", 5)", x.act(body, act, 5), 0);
                due("count(5)", x.count(5), 0);
                due("trace(0)", x.trace(0), BAD);
            }
        }
        due("none at all", new TypewritersKnow().act(0, 0, 5), 0);
        due("the last", agency().act(2, 0, 5), 10);
    }

    @Says("0, and no TRACE then: no such GHOST, ACT.")
    static void p39_noSuchAct() {
        int[] none = {-1, 4, MIN, MAX};
        for (int act : none) {
            TypewritersKnow x = agency();
            due("act(0, " + act + ", 5)", x.act(0, act, 5), 0);
            due("count(5)", x.count(5), 0);
            due("trace(0)", x.trace(0), BAD);
        }
        still(0, "all else stays", () -> {
            TypewritersKnow x = agency();
            x.act(-1, 0, 0);
            return x;
        }, x -> x.act(0, 4, 5));
    }

    @Says("ACTS with x (an int that wraps)")
    static void p39_xWraps() {
        TypewritersKnow x = ghosts(8);
        due("GHOST types", x.act(0, 0, MAX), MAX);
        due("GHOST sticks", x.act(0, 1, 1 << 30), MIN);
        due("GHOST sticks", x.act(0, 1, MIN), 0);
        due("GHOST rings", x.act(0, 2, MIN), MIN);
        due("GHOST tells", x.act(0, 3, 1 << 30), MAX);
        due("POET types", x.act(1, 0, MAX), MIN + 3);
        due("POET types", x.act(1, 0, MAX - 3), MIN);
        due("SPY sticks", x.act(2, 1, (1 << 30) - 2), MIN);
        due("NOVEL rings", x.act(3, 2, MAX), (MAX - 3) * 3);
        due("NOVEL sticks", x.act(3, 1, MAX), -6);
        due("NUN rings", x.act(4, 2, MIN), (MIN + 4) - 9);
        due("NUN rings wrap below", x.act(4, 2, MIN) > 0 ? 1 : 0, 1);
        due("CHIEF types", x.act(6, 0, (1 << 30) - 6), MIN);
        due("CHIEF types", x.act(6, 0, MAX), 10);
    }

    @Says("BODIES of acts: TYPES (an interface of GHOST): 1 types: x + n.")
    static void p39_nIsTheNumberOfTheBody() {
        TypewritersKnow x = ghosts(50);
        due("the first", x.act(0, 0, 5), 5);
        due("the last of its kind 0", x.act(48, 0, 5), 53);
        due("the last, a POET", x.act(49, 0, 5), 57);
        due("the last rings", x.act(49, 2, 5), 5 ^ 49);
    }

    @Says("super: from the KIND above the body's on.")
    static void p39_superIsAboveTheBodyNotTheGhost() {
        TypewritersKnow x = ghosts(8);
        // LIAR has NOVEL's sticks, whose super is SPY's, whose super is GHOST's: -(x + 1 + n) * 2.
        due("LIAR sticks", x.act(5, 1, 10), -32);
        due("count(5)", x.count(5), 4);
        // DROWNED has POET's types from NUN's place on, once: x + n + 3.
        due("DROWNED types", x.act(7, 0, 10), 20);
        due("count(5)", x.count(5), 2);
    }

    @Says("types(..) and so on: the body of its own KIND, or of the next KIND above that has one")
    static void p39_allActsOfAllKinds() {
        TypewritersKnow x = ghosts(8);
        // By KIND, its number, too: types(10), sticks(10), rings(10), tells(10).
        int[][] due = {
            {10, 20, 10, 20 - 1},
            {14, 28, 11, 28 - 0},
            {12, -24, 8, -24 - 3},
            {13, -28, 27, -28 - 6},
            {17, 34, 14 - 9, 34 - (5 - 9)},
            {15, -32, 45, (-32 - 12) ^ 5},
            {32, 64, 12, 64 - 7},
            {20, 40 + (5 - 12), 13 - 12, 40 + (5 - 12) - (6 - 12) - 1}};
        for (int kind = 0; kind < 8; kind++) {
            for (int act = 0; act < 4; act++) {
                due("act(" + kind + ", " + act + ", 10)", x.act(kind, act, 10), due[kind][act]);
            }
        }
    }

    // ---- 40: trace

    @Says("THE TRACE's i-th body. BAD.")
    static void p40_badNoSuchPlace() {
        int[] none = {-1, 14, 23, 24, 25, MIN, MAX};
        for (int i : none) {
            still(BAD, "trace(" + i + ")", x -> x.trace(i));
        }
        still(81, "trace(0)", x -> x.trace(0));
        still(1, "trace(13)", x -> x.trace(13));
        due("no act yet", new TypewritersKnow().trace(0), BAD);
    }

    @Says("numbers of the bodies that ran in the latest act(), as they began")
    static void p40_asTheyBegan() {
        int[][] traces = {{2, 10, 1, 11}, {2, 10, 20, 1, 11}, {2, 30, 10, 1, 11}, {2, 41, 30, 10, 1, 40, 11},
            {2, 10, 20, 1, 50, 11, 20, 1}, {60, 2, 41, 30, 10, 1, 40, 11}, {2, 10, 70, 1, 11},
            {81, 2, 80, 10, 20, 1, 50, 11, 20, 1, 50, 11, 20, 1}};
        TypewritersKnow x = ghosts(8);
        for (int kind = 0; kind < 8; kind++) {
            x.act(kind, 3, 1);
            due("tells of " + kind, x.count(5), traces[kind].length);
            for (int i = 0; i < traces[kind].length; i++) {
                due("trace(" + i + ") of " + kind, x.trace(i), traces[kind][i]);
            }
            due("behind the last", x.trace(traces[kind].length), BAD);
        }
    }

    /** The longest trace is that of DROWNED's tells, 14 bodies: the 25th never comes. */
    @Says("numbers of the bodies that ran in the latest act(), as they began; the first 24 are kept.")
    static void p40_theLatestActAlone() {
        TypewritersKnow x = ghosts(8);
        x.act(7, 3, 1);
        due("fourteen", x.count(5), 14);
        x.act(0, 0, 1);
        due("one", x.count(5), 1);
        due("trace(0)", x.trace(0), 1);
        due("trace(1)", x.trace(1), BAD);
        int most = 0;
        for (int body = 0; body < 8; body++) {
            for (int act = 0; act < 4; act++) {
                x.act(body, act, 1);
                most = Math.max(most, x.count(5));
            }
        }
        due("most", most, 14);
    }

    // ---- 41: keep

    @Says("A SHELF holds nothing (body -1), or a GHOST: 1. BAD.")
    static void p41_badNoSuchShelfOrBody() {
        for (int shelf : NO_SHELVES) {
            still(BAD, "shelf " + shelf, x -> x.keep(shelf, 0));
            still(BAD, "shelf " + shelf + ", nothing", x -> x.keep(shelf, -1));
        }
        int[] none = {-2, 3, 50, MIN, MAX};
        for (int body : none) {
            still(BAD, "body " + body, x -> x.keep(DAY, body));
            still(BAD, "body " + body + " on a ghost's", x -> x.keep(GHOST, body));
        }
        due("no bodies", new TypewritersKnow().keep(0, 0), BAD);
    }

    @Says("A SHELF holds nothing (body -1)")
    static void p41_nothing() {
        for (int shelf = 0; shelf <= 5; shelf++) {
            TypewritersKnow x = agency();
            due("keep(" + shelf + ", -1)", x.keep(shelf, -1), 1);
            due("taken", x.taken(shelf, 0), NOTHING);
            due("put", x.put(shelf, 0, 1), NOTHING);
            due("element", x.element(shelf, 0), Long.MIN_VALUE);
        }
        due("nothing at all", new TypewritersKnow().keep(5, -1), 1);
    }

    @Says("or a GHOST: 1.")
    static void p41_theFirstAndTheLast() {
        TypewritersKnow x = ghosts(50);
        due("body 0 on 0", x.keep(0, 0), 1);
        due("body 49 on 5", x.keep(5, 49), 1);
        due("body 49 on 4", x.keep(4, 49), 1);
        due("0", x.taken(0, 0), 0);
        due("5", x.taken(5, 0), 1);
        due("4", x.taken(4, 0), 1);
        due("instead of another", x.keep(0, 7), 1);
        due("0", x.taken(0, 0), 7);
    }

    // ---- 42: row

    @Says("BAD (sort, n above 60); -14.")
    static void p42_badSortOrNAbove60() {
        int[] noSorts = {-1, 5, MIN, MAX};
        for (int sort : noSorts) {
            still(BAD, "sort " + sort, x -> x.row(DAY, sort, 2));
        }
        still(BAD, "n 61", x -> x.row(DAY, BYTES, 61));
        still(BAD, "most n", x -> x.row(DAY, LONGS, MAX));
        for (int shelf : NO_SHELVES) {
            still(BAD, "shelf " + shelf, x -> x.row(shelf, BYTES, 2));
        }
    }

    @Says("-14 a size below 0")
    static void p42_aSizeBelow0() {
        for (int sort = 0; sort < 5; sort++) {
            int of = sort;
            still(SIZE, "n -1", x -> x.row(DAY, of, -1));
            still(SIZE, "n -61 on a ghost's", x -> x.row(GHOST, of, -61));
            still(SIZE, "least n", x -> x.row(EMPTY, of, MIN));
        }
    }

    @Says("Answers, of several the one named first: BAD (-1)")
    static void p42_badAheadOfMinus14() {
        still(BAD, "sort 5, n -1", x -> x.row(DAY, 5, -1));
        still(BAD, "sort -1, n -1", x -> x.row(DAY, -1, -1));
        still(BAD, "shelf 6, n -1", x -> x.row(6, BYTES, -1));
    }

    @Says("of 0 .. 60 elements, 0 at first (false)")
    static void p42_from0To60Elements() {
        for (int sort = 0; sort < 5; sort++) {
            TypewritersKnow x = new TypewritersKnow();
            due("a row of 0", x.row(0, sort, 0), 1);
            due("element 0", x.element(0, 0), Long.MIN_VALUE);
            due("put 0", x.put(0, 0, 1), PLACE);
            due("a row of 60", x.row(5, sort, 60), 1);
            for (int i = 0; i < 60; i++) {
                due("element " + i, x.element(5, i), 0);
            }
            due("element 60", x.element(5, 60), Long.MIN_VALUE);
        }
    }

    @Says("0 at first (false)")
    static void p42_aNewRowForgetsTheOld() {
        TypewritersKnow x = new TypewritersKnow();
        x.row(0, LONGS, 60);
        x.put(0, 59, -1);
        x.put(0, 0, -1);
        x.row(0, BYTES, 1);
        due("0", x.element(0, 0), 0);
        due("no 1", x.element(0, 1), Long.MIN_VALUE);
        x.row(0, BOOLEANS, 60);
        due("59", x.element(0, 59), 0);
        x.body(0);
        x.keep(0, 0);
        x.row(0, INTS, 1);
        due("a row, no ghost", x.taken(0, 0), KIND);
    }

    // ---- 43: put

    @Says("Element i of a ROW becomes v: 1. BAD, -11, -12, -13.")
    static void p43_refusals() {
        for (int shelf : NO_SHELVES) {
            still(BAD, "shelf " + shelf, x -> x.put(shelf, 0, 1));
        }
        still(NOTHING, "nothing", x -> x.put(EMPTY, 0, 1));
        still(KIND, "a ghost", x -> x.put(GHOST, 0, 1));
        int[] none = {-1, 4, 60, MIN, MAX};
        for (int i : none) {
            still(PLACE, "place " + i, x -> x.put(LONG_ROW, i, 1));
        }
        due("the first", agency().put(LONG_ROW, 0, 1), 1);
        due("the last", agency().put(LONG_ROW, 3, 1), 1);
    }

    @Says("Answers, of several the one named first")
    static void p43_theFirstNamed() {
        still(BAD, "shelf 6, place -1", x -> x.put(6, -1, 1));
        still(NOTHING, "nothing, place -1", x -> x.put(EMPTY, -1, 1));
        still(KIND, "a ghost, place -1", x -> x.put(GHOST, -1, 1));
        still(KIND, "a ghost, place 60", x -> x.put(GHOST, 60, 1));
    }

    @Says("what is put in keeps its lowest bits (a boolean: whether it is not 0; 1 or 0)")
    static void p43_lowestBits() {
        long[][] rows = {
            {BYTES, 127, 127}, {BYTES, 128, -128}, {BYTES, 255, -1}, {BYTES, 256, 0}, {BYTES, -129, 127}, {BYTES, Long.MIN_VALUE, 0},
            {BYTES, Long.MAX_VALUE, -1},
            {SHORTS, 32767, 32767}, {SHORTS, 32768, -32768}, {SHORTS, 65536, 0}, {SHORTS, -32769, 32767}, {SHORTS, 1L << 40, 0},
            {INTS, MAX, MAX}, {INTS, 1L + MAX, MIN}, {INTS, 1L << 32, 0}, {INTS, -1L + MIN, MAX}, {INTS, (1L << 32) + 5, 5},
            {LONGS, Long.MAX_VALUE, Long.MAX_VALUE}, {LONGS, Long.MIN_VALUE + 1, Long.MIN_VALUE + 1}, {LONGS, -1, -1},
            {BOOLEANS, 0, 0}, {BOOLEANS, 1, 1}, {BOOLEANS, 2, 1}, {BOOLEANS, -1, 1}, {BOOLEANS, 256, 1}, {BOOLEANS, 1L << 32, 1},
            {BOOLEANS, Long.MIN_VALUE, 1}};
        for (long[] row : rows) {
            TypewritersKnow x = new TypewritersKnow();
            x.row(0, (int) row[0], 3);
            due("put", x.put(0, 1, row[1]), 1);
            due("sort " + row[0] + " of " + row[1], x.element(0, 1), row[2]);
            due("ahead of it", x.element(0, 0), 0);
            due("behind it", x.element(0, 2), 0);
            x.put(0, 1, 0);
            due("0 again", x.element(0, 1), 0);
        }
    }

    // ---- 44: element

    @Says("Element i of a ROW; Long.MIN_VALUE: BAD, -11 to -13.")
    static void p44_refusals() {
        for (int shelf : NO_SHELVES) {
            still(Long.MIN_VALUE, "shelf " + shelf, x -> x.element(shelf, 0));
        }
        still(Long.MIN_VALUE, "nothing", x -> x.element(EMPTY, 0));
        still(Long.MIN_VALUE, "a ghost", x -> x.element(GHOST, 0));
        int[] none = {-1, 4, 60, MIN, MAX};
        for (int i : none) {
            still(Long.MIN_VALUE, "place " + i, x -> x.element(LONG_ROW, i));
        }
        still(7, "the first", x -> x.element(LONG_ROW, 0));
        still(1L << 40, "the last", x -> x.element(LONG_ROW, 3));
    }

    // ---- 45: shift

    private static void rowIs(TypewritersKnow x, int shelf, long... cells) {
        for (int i = 0; i < cells.length; i++) {
            due("element " + i + " of " + shelf, x.element(shelf, i), cells[i]);
        }
        due("its end", x.element(shelf, cells.length), Long.MIN_VALUE);
    }

    /** Two ROWS of ints, 1 2 3 4 5 on SHELF 0 and 7 8 9 on SHELF 1. */
    private static TypewritersKnow rows() {
        TypewritersKnow x = new TypewritersKnow();
        fill(x, 0, INTS, 1, 2, 3, 4, 5);
        fill(x, 1, INTS, 7, 8, 9);
        return x;
    }

    @Says("BAD, -11 (either), -12 (no ROWS, or of unlike sorts), -13.")
    static void p45_badNoSuchShelf() {
        for (int shelf : NO_SHELVES) {
            still(BAD, "from " + shelf, x -> x.shift(shelf, 0, DAY, 0, 1));
            still(BAD, "to " + shelf, x -> x.shift(DAY, 0, shelf, 0, 1));
            still(BAD, "from nothing to " + shelf, x -> x.shift(EMPTY, 0, shelf, 0, 1));
            still(BAD, "from " + shelf + " to a ghost's", x -> x.shift(shelf, 0, GHOST, 0, 1));
            still(BAD, "from a place that is not there to " + shelf, x -> x.shift(DAY, -1, shelf, 0, -1));
        }
    }

    @Says("-11 (either)")
    static void p45_nothingOnEither() {
        still(NOTHING, "from", x -> x.shift(EMPTY, 0, DAY, 0, 1));
        still(NOTHING, "to", x -> x.shift(DAY, 0, EMPTY, 0, 1));
        still(NOTHING, "both", x -> x.shift(EMPTY, 0, EMPTY, 0, 0));
        still(NOTHING, "from a ghost's", x -> x.shift(GHOST, 0, EMPTY, 0, 1));
        still(NOTHING, "to a ghost's", x -> x.shift(EMPTY, 0, GHOST, 0, 1));
        still(NOTHING, "from no place", x -> x.shift(DAY, -1, EMPTY, -1, -1));
    }

    @Says("-12 (no ROWS, or of unlike sorts)")
    static void p45_noRowsOrUnlike() {
        still(KIND, "from a ghost's", x -> x.shift(GHOST, 0, DAY, 0, 1));
        still(KIND, "to a ghost's", x -> x.shift(DAY, 0, GHOST, 0, 1));
        still(KIND, "both a ghost's", x -> x.shift(GHOST, 0, GHOST, 0, 0));
        still(KIND, "bytes to shorts", x -> x.shift(DAY, 0, BOOK, 0, 1));
        still(KIND, "shorts to longs", x -> x.shift(BOOK, 0, LONG_ROW, 0, 0));
        still(KIND, "unlike, from no place", x -> x.shift(DAY, -1, BOOK, 0, 1));
        still(KIND, "unlike, to no place", x -> x.shift(DAY, 0, BOOK, 99, 1));
        still(KIND, "unlike, n -1", x -> x.shift(DAY, 0, BOOK, 0, -1));
        for (int sort = 0; sort < 5; sort++) {
            for (int other = 0; other < 5; other++) {
                TypewritersKnow x = new TypewritersKnow();
                x.row(0, sort, 2);
                x.row(1, other, 2);
                due("sort " + sort + " to " + other, x.shift(0, 0, 1, 0, 2), sort == other ? 2 : KIND);
            }
        }
    }

    @Says("-13 a place that is not there")
    static void p45_noSuchPlaces() {
        int[][] places = {{-1, 0, 1}, {0, -1, 1}, {-1, 0, 0}, {0, -1, 0}, {6, 0, 0}, {0, 4, 0}, {5, 0, 1}, {0, 3, 1}, {4, 0, 2}, {0, 2, 2},
            {0, 0, 4}, {0, 0, 6}, {3, 0, 3}, {0, 1, 3}, {0, 0, -1}, {2, 2, -1}, {MIN, 0, 1}, {0, MIN, 1}, {MAX, 0, 1}, {0, MAX, 1},
            {0, 0, MAX}, {0, 0, MIN}, {1, 1, MAX}, {MAX, MAX, MAX}, {MIN, MIN, MIN}, {MAX, 0, 0}, {0, MAX, 0}};
        for (int[] a : places) {
            still(PLACE, "from " + a[0] + " to " + a[1] + ", " + a[2], EdgesOfShelvesTest::rows, x -> x.shift(0, a[0], 1, a[1], a[2]));
        }
        still(PLACE, "up over its own end", EdgesOfShelvesTest::rows, x -> x.shift(0, 0, 0, 1, 5));
    }

    @Says("n elements of a ROW from i on come to another one")
    static void p45_noneAndAllOfThem() {
        still(0, "none", EdgesOfShelvesTest::rows, x -> x.shift(0, 0, 1, 0, 0));
        still(0, "none from the end to the end", EdgesOfShelvesTest::rows, x -> x.shift(0, 5, 1, 3, 0));
        TypewritersKnow x = rows();
        due("up to both ends", x.shift(0, 3, 1, 1, 2), 2);
        rowIs(x, 0, 1, 2, 3, 4, 5);
        rowIs(x, 1, 7, 4, 5);
        due("all", x.shift(1, 0, 0, 2, 3), 3);
        rowIs(x, 0, 1, 2, 7, 4, 5);
        x.row(2, BYTES, 60);
        x.row(3, BYTES, 60);
        x.put(2, 0, 3);
        x.put(2, 59, 4);
        due("sixty", x.shift(2, 0, 3, 0, 60), 60);
        due("the first", x.element(3, 0), 3);
        due("the last", x.element(3, 59), 4);
        x.row(4, BYTES, 0);
        due("none of a row of 0", x.shift(4, 0, 4, 0, 0), 0);
        due("one of a row of 0", x.shift(4, 0, 4, 0, 1), PLACE);
        rowIs(x, 4, NONE);
    }

    @Says("(or the same) from j on, as they all were before")
    static void p45_theSameRow() {
        TypewritersKnow up = rows();
        due("up by one", up.shift(0, 0, 0, 1, 4), 4);
        rowIs(up, 0, 1, 1, 2, 3, 4);
        TypewritersKnow down = rows();
        due("down by one", down.shift(0, 1, 0, 0, 4), 4);
        rowIs(down, 0, 2, 3, 4, 5, 5);
        still(5, "onto itself", EdgesOfShelvesTest::rows, x -> x.shift(0, 0, 0, 0, 5));
    }

    // ---- 46: taken

    @Says("What a SHELF holds, taken for a GHOST of KIND k (0 .. 7), or under it: its KIND. BAD, -11, -12.")
    static void p46_refusals() {
        for (int shelf : NO_SHELVES) {
            still(BAD, "shelf " + shelf, x -> x.taken(shelf, 0));
        }
        int[] none = {-1, 8, MIN, MAX};
        for (int k : none) {
            still(BAD, "k " + k, x -> x.taken(GHOST, k));
            still(BAD, "k " + k + ", nothing", x -> x.taken(EMPTY, k));
            still(BAD, "k " + k + ", a row", x -> x.taken(DAY, k));
        }
        for (int k = 0; k <= 7; k++) {
            int kind = k;
            still(NOTHING, "nothing, k " + k, x -> x.taken(EMPTY, kind));
            still(KIND, "bytes, k " + k, x -> x.taken(DAY, kind));
            still(KIND, "longs, k " + k, x -> x.taken(LONG_ROW, kind));
        }
    }

    @Says("or under it: its KIND")
    static void p46_itsOwnKindAboveAndBeside() {
        // By KIND, the KINDS it can be taken for, as bits.
        int[] takes = {1, 3, 5, 13, 19, 45, 65, 147};
        TypewritersKnow x = ghosts(8);
        for (int kind = 0; kind < 8; kind++) {
            x.keep(0, kind);
            for (int k = 0; k < 8; k++) {
                due(kind + " for " + k, x.taken(0, k), (takes[kind] & 1 << k) != 0 ? kind : KIND);
            }
        }
    }

    // ---- 47: count

    @Says("4 BODIES, 5 bodies that ran in the latest act(). BAD.")
    static void p47_badNoSuchWhat() {
        int[] none = {-1, 6, MIN, MAX};
        for (int what : none) {
            still(BAD, "what " + what, x -> x.count(what));
        }
        long[] all = {3, 3, 2, 11, 3, 14};
        for (int what = 0; what <= 5; what++) {
            int of = what;
            still(all[what], "what " + what, x -> x.count(of));
            due("what " + what + " of a new one", new TypewritersKnow().count(what), 0);
        }
    }

    @Says("How many: 0 MACHINES, 1 WRITERS, 2 bytes on THE TAPE, 3 changes that may be UNDONE, 4 BODIES")
    static void p47_whenAllAreFull() {
        TypewritersKnow x = with(9, 0, 0, 0, 0, 0, 0, 0, 0, 0);
        for (int i = 0; i < 121; i++) {
            x.feed('1');
        }
        for (int i = 0; i < 41; i++) {
            x.mend(0, 3, i + 1);
        }
        for (int i = 0; i < 51; i++) {
            x.body(7);
        }
        x.act(49, 3, 1);
        long[] all = {8, 8, 120, 40, 50, 14};
        for (int what = 0; what <= 5; what++) {
            due("what " + what, x.count(what), all[what]);
        }
        x.undo();
        due("one undone", x.count(3), 39);
        x.redo();
        due("done again", x.count(3), 40);
    }

    public static void main(String[] args) throws Exception {
        run(EdgesOfShelvesTest.class, 38, 47);
    }
}
