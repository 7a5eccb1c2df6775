/** The edges of promises 18 to 29: whose a letter is, books, mornings, prices, draws. */
public final class EdgesOfWhoseTest extends Edges {
    private static final int[] NO_NUMBERS = {-1, 3, 8, MIN, MAX};
    private static final int[] NO_PAIRS = {-1, -10, 3, 9, 13, 30, 99, 100, MIN, MAX};
    private static final int[] NO_SHELVES = {-1, 6, MIN, MAX};
    /** What a WRITER with HANDS 6 SHOWS on a MACHINE with PULLS 6. */
    private static final int SIXES = code(6, 6, 6);

    private interface ShelfCall {
        long on(TypewritersKnow x, int shelf);
    }

    /** A call that wants a ROW of bytes (a SHEET) on its SHELF. */
    private static void wantsASheet(ShelfCall c) {
        wantsA(BYTES, c);
        still(KIND, "shorts", x -> c.on(x, BOOK));
    }

    /** A call that wants a ROW of shorts (a BOOK) on its SHELF. */
    private static void wantsABook(ShelfCall c) {
        wantsA(SHORTS, c);
        still(KIND, "bytes", x -> c.on(x, SHEET));
    }

    private static void wantsA(int sort, ShelfCall c) {
        for (int shelf : NO_SHELVES) {
            still(BAD, "shelf " + shelf, x -> c.on(x, shelf));
        }
        still(NOTHING, "nothing", x -> c.on(x, EMPTY));
        still(KIND, "longs", x -> c.on(x, LONG_ROW));
        still(KIND, "a ghost", x -> c.on(x, GHOST));
        for (int other = 0; other < 5; other++) {
            TypewritersKnow x = agency();
            x.row(EMPTY, other, 3);
            boolean refused = c.on(x, EMPTY) == KIND;
            due("sort " + other + " is refused", refused ? 1 : 0, other == sort ? 0 : 1);
        }
    }

    /** GRIP 0, so HANDS are what SHOWS. */
    private static TypewritersKnow hands(int machines, int... writers) {
        TypewritersKnow x = with(machines, writers);
        tell(x, "0");
        return x;
    }

    // ---- 18: whose

    @Says("WHOSE on a MACHINE: bits.")
    static void p18_badNoSuchMachine() {
        for (int machine : NO_NUMBERS) {
            still(BAD, "machine " + machine, x -> x.whose(SHEET, machine));
            still(BAD, "machine " + machine + ", nothing", x -> x.whose(EMPTY, machine));
            still(BAD, "machine " + machine + ", shorts", x -> x.whose(BOOK, machine));
        }
        still(4, "machine 0", x -> x.whose(SHEET, 0));
        still(0, "machine 2", x -> x.whose(SHEET, 2));
    }

    @Says("a SHEET on a SHELF: BAD, -11, -12 (no ROW of bytes)")
    static void p18_aShelfWithoutASheet() {
        wantsASheet((x, shelf) -> x.whose(shelf, 0));
    }

    @Says("(what lacks: any; more do not matter)")
    static void p18_whatLacksIsAny() {
        TypewritersKnow x = hands(1, code(1, 2, 3), code(1, 2, 4), code(1, 5, 3), code(4, 2, 3));
        fill(x, 0, BYTES);
        due("a row of 0", x.whose(0, 0), 15);
        fill(x, 0, BYTES, 1);
        due("a row of 1", x.whose(0, 0), 7);
        fill(x, 0, BYTES, 1, 2);
        due("a row of 2", x.whose(0, 0), 3);
        fill(x, 0, BYTES, 1, 2, 3);
        due("a row of 3", x.whose(0, 0), 1);
    }

    @Says("(what lacks: any; more do not matter)")
    static void p18_moreDoNotMatter() {
        TypewritersKnow x = hands(1, code(1, 2, 3), code(1, 2, 4));
        fill(x, 0, BYTES, 1, 2, 4, 99);
        due("a row of 4", x.whose(0, 0), 2);
        x.row(0, BYTES, 60);
        x.put(0, 0, 1);
        x.put(0, 1, 2);
        x.put(0, 2, 3);
        due("a row of 60", x.whose(0, 0), 1);
    }

    @Says("which WRITERS (bits) could have typed a SHEET on a MACHINE now")
    static void p18_nobodyAndAll() {
        TypewritersKnow nobody = with(1);
        nobody.row(0, BYTES, 0);
        due("nobody there", nobody.whose(0, 0), 0);
        TypewritersKnow all = hands(1, 0, 0, 0, 0, 0, 0, 0, 0);
        all.row(0, BYTES, 3);
        due("all eight", all.whose(0, 0), 255);
        fill(all, 0, BYTES, 13);
        due("13", all.whose(0, 0), 0);
        fill(all, 0, BYTES, -1);
        due("-1", all.whose(0, 0), 0);
        fill(all, 0, BYTES, 256, 512, -256);
        due("lowest bits 0", all.whose(0, 0), 255);
    }

    // ---- 19: where

    @Says("On which MACHINES a WRITER could have: bits.")
    static void p19_badNoSuchWriter() {
        for (int writer : NO_NUMBERS) {
            still(BAD, "writer " + writer, x -> x.where(SHEET, writer));
            still(BAD, "writer " + writer + ", nothing", x -> x.where(EMPTY, writer));
            still(BAD, "writer " + writer + ", shorts", x -> x.where(BOOK, writer));
        }
        still(1, "writer 2", x -> x.where(SHEET, 2));
    }

    @Says("a SHEET on a SHELF: BAD, -11, -12 (no ROW of bytes)")
    static void p19_aShelfWithoutASheet() {
        wantsASheet((x, shelf) -> x.where(shelf, 0));
    }

    @Says("on which MACHINES (bits) a WRITER could have")
    static void p19_noneAndAll() {
        TypewritersKnow none = with(0, 0);
        none.row(0, BYTES, 0);
        due("no machines", none.where(0, 0), 0);
        TypewritersKnow all = hands(8, 0);
        all.row(0, BYTES, 3);
        due("all eight", all.where(0, 0), 255);
        fill(all, 0, BYTES, 0, 0, 1);
        due("none of eight", all.where(0, 0), 0);
    }

    @Says("(what lacks: any; more do not matter)")
    static void p19_whatLacksAndMore() {
        TypewritersKnow x = with(3, SIXES);
        tell(x, "12");
        x.mend(1, 2, 5);
        x.mend(2, 1, 5);
        fill(x, 0, BYTES);
        due("a row of 0", x.where(0, 0), 7);
        fill(x, 0, BYTES, 6);
        due("a row of 1", x.where(0, 0), 7);
        fill(x, 0, BYTES, 6, 6);
        due("a row of 2", x.where(0, 0), 3);
        fill(x, 0, BYTES, 6, 6, 6);
        due("a row of 3", x.where(0, 0), 1);
        fill(x, 0, BYTES, 6, 6, 6, 1);
        due("a row of 4", x.where(0, 0), 1);
    }

    // ---- 20: pairs

    @Says("How many pairs (what 0), SURE (1; NOT).")
    static void p20_badNoSuchWhat() {
        int[] none = {-1, 2, MIN, MAX};
        for (int what : none) {
            still(BAD, "what " + what, x -> x.pairs(SHEET, what));
            still(BAD, "what " + what + ", nothing", x -> x.pairs(EMPTY, what));
            still(BAD, "what " + what + ", shorts", x -> x.pairs(BOOK, what));
        }
        still(1, "what 0", x -> x.pairs(SHEET, 0));
        still(2, "what 1", x -> x.pairs(SHEET, 1));
    }

    @Says("a SHEET on a SHELF: BAD, -11, -12 (no ROW of bytes)")
    static void p20_aShelfWithoutASheet() {
        wantsASheet((x, shelf) -> x.pairs(shelf, 0));
        wantsASheet((x, shelf) -> x.pairs(shelf, 1));
    }

    @Says("how many pairs of both there are")
    static void p20_noPairsAndAll() {
        TypewritersKnow all = hands(8, 0, 0, 0, 0, 0, 0, 0, 0);
        all.row(0, BYTES, 0);
        due("64", all.pairs(0, 0), 64);
        fill(all, 0, BYTES, 1);
        due("none", all.pairs(0, 0), 0);
        TypewritersKnow none = new TypewritersKnow();
        none.row(0, BYTES, 0);
        due("neither", none.pairs(0, 0), 0);
        due("neither, sure", none.pairs(0, 1), NOT);
    }

    @Says("SURE: the WRITER of a SHEET, if just one can be on any MACHINE (NOT).")
    static void p20_sureIfJustOneCanBe() {
        TypewritersKnow x = hands(2, code(1, 1, 1), code(2, 2, 2), code(2, 3, 3));
        fill(x, 0, BYTES, 1);
        due("one writer, two machines", x.pairs(0, 0), 2);
        due("sure of 0", x.pairs(0, 1), 0);
        fill(x, 0, BYTES, 2);
        due("two can be", x.pairs(0, 1), NOT);
        fill(x, 0, BYTES, 2, 3);
        due("the last", x.pairs(0, 1), 2);
        fill(x, 0, BYTES, 3);
        due("none can be", x.pairs(0, 1), NOT);
    }

    @Says("if just one can be on any MACHINE (NOT)")
    static void p20_notSureIfEachMachineHasAnother() {
        TypewritersKnow x = with(2, code(1, 1, 1), code(2, 2, 2));
        pulls(x, 1, 0, 0, 0);
        // PULL 6: HANDS show at a grip of 0; PULL 0: 2 2 2 at a grip of 6 is 1 1 1.
        tell(x, "m*6");
        fill(x, 0, BYTES, 1, 1, 1);
        due("on machine 0", x.whose(0, 0), 1);
        due("on machine 1", x.whose(0, 1), 2);
        due("pairs", x.pairs(0, 0), 2);
        due("sure", x.pairs(0, 1), NOT);
    }

    // ---- 21: between

    /** GRIP 12, so PULLS are what SHOWS; HANDS 0 12 6 lead 6 6 6 to 0 12 6. */
    private static TypewritersKnow led(String law) {
        TypewritersKnow x = with(2, code(0, 12, 6), code(3, 3, 3));
        tell(x, law);
        return x;
    }

    @Says("BETWEEN: LETTERS of wm's WRITER on its MACHINE, the SHEET another one's. NOT.")
    static void p21_badNoSuchPairOrOther() {
        for (int wm : NO_PAIRS) {
            still(BAD, "wm " + wm, x -> x.between(SHEET, wm, 0));
        }
        for (int other : NO_NUMBERS) {
            still(BAD, "other " + other, x -> x.between(SHEET, 0, other));
        }
        still(BAD, "wm 3, nothing", x -> x.between(EMPTY, 3, 0));
        still(BAD, "other 3, shorts", x -> x.between(BOOK, 0, 3));
        still(0, "the last other", x -> x.between(SHEET, 0, 2));
    }

    @Says("a SHEET on a SHELF: BAD, -11, -12 (no ROW of bytes)")
    static void p21_aShelfWithoutASheet() {
        wantsASheet((x, shelf) -> x.between(shelf, 0, 2));
    }

    @Says("how many LETTERS of a WRITER (0 .. 60, the fewest) must have been typed on a MACHINE first")
    static void p21_from0To60() {
        TypewritersKnow x = led("a=60?0;12");
        fill(x, 0, BYTES, 6, 6, 6);
        due("none", x.between(0, 0, 1), 0);
        fill(x, 0, BYTES, 5, 7, 6);
        due("one", x.between(0, 0, 1), 1);
        fill(x, 0, BYTES, 3, 3, 3);
        due("sixty", x.between(0, 0, 1), 60);
        x.mend(0, 3, 1);
        due("fifty-nine", x.between(0, 0, 1), 59);
        TypewritersKnow y = led("a=61?0;12");
        fill(y, 0, BYTES, 3, 3, 3);
        due("sixty-one are too many", y.between(0, 0, 1), NOT);
        y.mend(0, 3, 1);
        due("sixty", y.between(0, 0, 1), 60);
    }

    @Says("so that a SHEET could be another one's then (or his own); NOT.")
    static void p21_hisOwnToo() {
        TypewritersKnow x = led("12");
        fill(x, 0, BYTES, 4, 8, 6);
        due("another one's", x.between(0, 0, 1), 2);
        due("his own", x.between(0, 0, 0), 2);
        due("the other way", x.between(0, 10, 0), NOT);
        fill(x, 0, BYTES, 0, 12, 6);
        due("six", x.between(0, 0, 0), 6);
        fill(x, 0, BYTES);
        due("any sheet", x.between(0, 0, 1), 0);
    }

    @Says("LETTERS of wm's WRITER on its MACHINE, the SHEET another one's.")
    static void p21_onThatMachineAlone() {
        TypewritersKnow x = led("12");
        pulls(x, 1, 9, 9, 9);
        fill(x, 0, BYTES, 7, 7, 7);
        due("writer 1 on machine 1", x.between(0, 11, 0), 2);
        due("writer 1 on machine 0", x.between(0, 10, 0), NOT);
        due("writer 0 on machine 1", x.between(0, 1, 0), NOT);
        fill(x, 0, BYTES, 8, 10, 8);
        due("writer 0 on machine 1", x.between(0, 1, 1), 1);
        TypewritersKnow all = with(8, 0, 0, 0, 0, 0, 0, 0, code(12, 12, 12));
        tell(all, "12");
        fill(all, 0, BYTES, 8);
        due("the last of both", all.between(0, 77, 7), 2);
        due("the last of both", all.between(0, 67, 7), NOT);
        due("no machine 8", all.between(0, 78, 7), BAD);
        due("no writer 8", all.between(0, 87, 7), BAD);
        due("no other 8", all.between(0, 77, 8), BAD);
    }

    @Says("AGE is one more (99 at most).")
    static void p21_ageStopsAt99() {
        TypewritersKnow x = led("a=99?0;12");
        fill(x, 0, BYTES, 3, 3, 3);
        x.mend(0, 3, 39);
        due("sixty", x.between(0, 0, 1), 60);
        x.mend(0, 3, 38);
        due("sixty-one are too many", x.between(0, 0, 1), NOT);
        x.mend(0, 3, 99);
        due("none", x.between(0, 0, 1), 0);
        tell(x, "a=100?0;12");
        due("never 100", x.between(0, 0, 1), NOT);
    }

    // ---- 22: judge

    /** A BOOK of whole threes, all by WRITER 0 on MACHINE 0, HANDS and PULLS 6: all so. */
    private static TypewritersKnow book(int threes) {
        TypewritersKnow x = with(1, SIXES);
        x.row(0, SHORTS, 3 * threes);
        for (int i = 0; i < threes; i++) {
            x.put(0, 3 * i + 2, SIXES);
        }
        return x;
    }

    @Says("JUDGED (a BOOK; no ROW of shorts: -12). BAD, -11, -12; NOT.")
    static void p22_aShelfWithoutABook() {
        wantsABook((x, shelf) -> x.judge(shelf));
    }

    @Says("the first three that is not so (none such, lacking, too); NOT.")
    static void p22_notIfAllIsSo() {
        due("no threes", book(0).judge(0), NOT);
        due("one", book(1).judge(0), NOT);
        due("twenty", book(20).judge(0), NOT);
        TypewritersKnow x = new TypewritersKnow();
        x.row(0, SHORTS, 0);
        due("no threes, nobody", x.judge(0), NOT);
        still(NOT, "in thought", y -> y.judge(BOOK));
    }

    @Says("the first three that is not so")
    static void p22_theFirstOfSeveral() {
        for (int three = 19; three >= 0; three--) {
            TypewritersKnow x = book(20);
            for (int i = three; i < 20; i++) {
                x.put(0, 3 * i + 2, SIXES + 1);
            }
            due("from " + three + " on", x.judge(0), three);
        }
        TypewritersKnow y = book(20);
        y.put(0, 2, -1);
        due("-1", y.judge(0), 0);
        y.put(0, 2, 2197);
        due("2197", y.judge(0), 0);
        y.put(0, 2, SIXES + 65536);
        due("lowest bits", y.judge(0), NOT);
    }

    @Says("(none such, lacking, too)")
    static void p22_noneSuch() {
        int[] none = {1, 8, -1, 32767, -32768};
        for (int number : none) {
            TypewritersKnow x = book(3);
            x.put(0, 3, number);
            due("writer " + number, x.judge(0), 1);
            TypewritersKnow y = book(3);
            y.put(0, 7, number);
            due("machine " + number, y.judge(0), 2);
        }
    }

    @Says("(none such, lacking, too)")
    static void p22_lacking() {
        TypewritersKnow x = with(1, SIXES);
        fill(x, 0, SHORTS, 0);
        due("a row of 1", x.judge(0), 0);
        fill(x, 0, SHORTS, 0, 0);
        due("a row of 2", x.judge(0), 0);
        fill(x, 0, SHORTS, 0, 0, SIXES, 0);
        due("a row of 4", x.judge(0), 1);
        fill(x, 0, SHORTS, 0, 0, SIXES, 0, 0);
        due("a row of 5", x.judge(0), 1);
        fill(x, 0, SHORTS, 0, 0, SIXES + 1, 0, 0);
        due("one ahead of it is not so", x.judge(0), 0);
        x.row(0, SHORTS, 59);
        for (int i = 0; i < 19; i++) {
            x.put(0, 3 * i + 2, SIXES);
        }
        due("a row of 59", x.judge(0), 19);
        // What lacks is not 0: here a LETTER SHOWS 0 by WRITER 0 on MACHINE 0.
        TypewritersKnow y = with(1, 0);
        pulls(y, 0, 0, 0, 0);
        for (int size = 0; size <= 6; size++) {
            y.row(0, SHORTS, size);
            due("a row of " + size + " zeros", y.judge(0), size % 3 == 0 ? NOT : size / 3);
        }
    }

    @Says("LETTERS one behind the other from now")
    static void p22_oneBehindTheOther() {
        TypewritersKnow x = with(1, code(0, 6, 6));
        tell(x, "12");
        fill(x, 0, SHORTS, 0, 0, SIXES, 0, 0, code(5, 6, 6), 0, 0, code(4, 6, 6));
        due("as they come", x.judge(0), NOT);
        due("again", x.judge(0), NOT);
        x.put(0, 5, SIXES);
        due("as if none came", x.judge(0), 1);
    }

    // ---- 23: falseOne

    @Says("FALSE: bits. BAD, -11, -12; NOT: the BOOK has no k-th three.")
    static void p23_aShelfWithoutABook() {
        wantsABook((x, shelf) -> x.falseOne(shelf, 0));
        still(NOTHING, "nothing, most k", x -> x.falseOne(EMPTY, MAX));
        still(KIND, "bytes, most k", x -> x.falseOne(SHEET, MAX));
    }

    @Says("BAD, -11, -12; NOT: the BOOK has no k-th three.")
    static void p23_badBelow0() {
        still(BAD, "k -1", x -> x.falseOne(BOOK, -1));
        still(BAD, "least k", x -> x.falseOne(BOOK, MIN));
        still(BAD, "k -1, nothing", x -> x.falseOne(EMPTY, -1));
        still(BAD, "k -1, bytes", x -> x.falseOne(SHEET, -1));
    }

    @Says("NOT: the BOOK has no k-th three.")
    static void p23_noKthThree() {
        still(0, "k 0 of 1", x -> x.falseOne(BOOK, 0));
        still(NOT, "k 1 of 1", x -> x.falseOne(BOOK, 1));
        still(NOT, "most k", x -> x.falseOne(BOOK, MAX));
        due("k 0 of none", book(0).falseOne(0, 0), NOT);
        due("k 19 of 20", book(20).falseOne(0, 19), 0);
        due("k 20 of 20", book(20).falseOne(0, 20), NOT);
    }

    @Says("A BOOK: a ROW of shorts: by threes WRITER, MACHINE and 169 times what it SHOWS in HABIT 0")
    static void p23_whatLacksIsNoThree() {
        for (int size = 1; size <= 5; size++) {
            TypewritersKnow x = with(1, SIXES, SIXES);
            x.row(0, SHORTS, size);
            x.put(0, 2, SIXES);
            due("k 0 of a row of " + size, x.falseOne(0, 0), size < 3 ? NOT : size == 3 ? 2 : 0);
            due("k 1 of a row of " + size, x.falseOne(0, 1), NOT);
        }
    }

    @Says("if the k-th WRITER in it is false: who (bits) may be there instead")
    static void p23_theToldOneIsNotInstead() {
        TypewritersKnow x = with(1, SIXES, SIXES, SIXES, SIXES, SIXES, SIXES, SIXES, SIXES);
        int[] told = {0, 7, 8, -1, 32767};
        int[] bits = {254, 127, 255, 255, 255};
        for (int i = 0; i < told.length; i++) {
            fill(x, 0, SHORTS, told[i], 0, SIXES);
            due("told " + told[i], x.falseOne(0, 0), bits[i]);
        }
        TypewritersKnow nobody = with(1);
        fill(nobody, 0, SHORTS, 0, 0, SIXES);
        due("nobody there", nobody.falseOne(0, 0), 0);
    }

    @Says("(all else as told) so that all is so")
    static void p23_allElseAsTold() {
        TypewritersKnow x = with(1, SIXES, SIXES);
        fill(x, 0, SHORTS, 0, 0, SIXES, 0, 0, SIXES);
        due("k 0", x.falseOne(0, 0), 2);
        due("k 1", x.falseOne(0, 1), 2);
        x.put(0, 5, SIXES + 1);
        due("one behind it is not so", x.falseOne(0, 0), 0);
        x.put(0, 5, SIXES);
        x.put(0, 4, 1);
        due("a machine that is none, behind it", x.falseOne(0, 0), 0);
        due("a machine that is none, in it", x.falseOne(0, 1), 0);
        fill(x, 0, SHORTS, 9, 0, SIXES, 9, 0, SIXES);
        due("two that are none", x.falseOne(0, 0), 0);
        // By 12 6 6 the PULL behind it would be 7, not 5.
        TypewritersKnow y = with(1, code(0, 6, 6), code(12, 6, 6));
        tell(y, "12");
        fill(y, 0, SHORTS, 0, 0, SIXES, 0, 0, code(7, 6, 6));
        due("what goes over to the next", y.falseOne(0, 0), 2);
        due("not the next one's", y.falseOne(0, 1), 0);
    }

    // ---- 24: ribbons

    @Says("RIBBONS: how many (what 0), the least (1; NOT). BAD, -11, -12.")
    static void p24_badNoSuchWhat() {
        int[] none = {-1, 2, MIN, MAX};
        for (int what : none) {
            still(BAD, "what " + what, x -> x.ribbons(BOOK, what));
            still(BAD, "what " + what + ", nothing", x -> x.ribbons(EMPTY, what));
            still(BAD, "what " + what + ", bytes", x -> x.ribbons(SHEET, what));
        }
    }

    @Says("RIBBONS: how many (what 0), the least (1; NOT). BAD, -11, -12.")
    static void p24_aShelfWithoutABook() {
        wantsABook((x, shelf) -> x.ribbons(shelf, 0));
        wantsABook((x, shelf) -> x.ribbons(shelf, 1));
    }

    private static void ribbons(String law, int shown, int many, int least) {
        TypewritersKnow x = with(1, code(0, 6, 6));
        tell(x, law);
        fill(x, 0, SHORTS, 0, 0, code(shown, 6, 6));
        due("how many by " + law, x.ribbons(0, 0), many);
        due("the least by " + law, x.ribbons(0, 1), least);
        due("RIBBON as it was", x.of(0, 8), 5);
    }

    @Says("RIBBONS: how many RIBBONS (0 .. 9) make all so; the least (NOT).")
    static void p24_ribbonsAreFrom0To9() {
        ribbons("r=0?12;0", 6, 1, 0);
        ribbons("r=9?12;0", 6, 1, 9);
        ribbons("r=5?12;0", 6, 1, 5);
        ribbons("r>7?12;0", 6, 2, 8);
        ribbons("r<2?12;0", 6, 2, 0);
        ribbons("r=4|r=7?12;0", 6, 2, 4);
    }

    @Says("the least (1; NOT)")
    static void p24_noneAndAll() {
        ribbons("r=10?12;0", 6, 0, NOT);
        ribbons("r=0-1?12;0", 6, 0, NOT);
        ribbons("12", 6, 10, 0);
        due("no threes", book(0).ribbons(0, 0), 10);
        due("no threes", book(0).ribbons(0, 1), 0);
        TypewritersKnow x = book(1);
        x.row(0, SHORTS, 1);
        due("one that lacks", x.ribbons(0, 0), 0);
        due("one that lacks", x.ribbons(0, 1), NOT);
    }

    // ---- 25: morning

    @Says("what a MACHINE types by itself behind n (0 .. 60) nights")
    static void p25_nIsFrom0To60() {
        still(BAD, "n -1", x -> x.morning(0, -1, 0));
        still(BAD, "n 61", x -> x.morning(0, 61, 0));
        still(BAD, "least n", x -> x.morning(0, MIN, 0));
        still(BAD, "most n", x -> x.morning(0, MAX, 0));
        still(12, "n 0", x -> x.morning(2, 0, 0));
        TypewritersKnow x = with(2);
        x.mend(1, 0, 7);
        due("by turns, 0", x.morning(0, 0, 0), 6);
        due("by turns, 1", x.morning(0, 1, 0), 7);
        due("by turns, 59", x.morning(0, 59, 0), 7);
        due("by turns, 60", x.morning(0, 60, 0), 6);
    }

    @Says("MORNING. BAD.")
    static void p25_badNoSuchMachineOrHabit() {
        for (int machine : NO_NUMBERS) {
            still(BAD, "machine " + machine, x -> x.morning(machine, 1, 0));
        }
        int[] none = {-1, 3, MIN, MAX};
        for (int habit : none) {
            still(BAD, "habit " + habit, x -> x.morning(0, 1, habit));
        }
        still(7, "machine 2, habit 2", x -> x.morning(2, 0, 2));
    }

    @Says("the MACHINE next to it by number (0 beside the last;")
    static void p25_machine0StandsBesideTheLast() {
        TypewritersKnow x = with(8);
        x.mend(0, 1, 0);
        due("the last goes to 0", x.morning(7, 1, 1), 5);
        due("0 goes to 1", x.morning(0, 1, 1), 1);
        due("1 goes to 2, not to 0", x.morning(1, 1, 1), 6);
        due("another habit", x.morning(7, 1, 0), 6);
        TypewritersKnow alone = with(1);
        pulls(alone, 0, 0, 12, 3);
        due("alone", alone.morning(0, 60, 0), 0);
        due("alone", alone.morning(0, 60, 1), 12);
        due("alone", alone.morning(0, 1, 2), 3);
    }

    @Says("as all stood the evening before, all MACHINES at once")
    static void p25_allAtOnce() {
        TypewritersKnow x = with(3);
        x.mend(1, 0, 7);
        x.mend(2, 0, 7);
        // 6 7 7 -> 7 7 6 -> 7 6 7
        int[][] nights = {{6, 7, 7}, {7, 7, 6}, {7, 6, 7}, {6, 7, 7}};
        for (int n = 0; n < nights.length; n++) {
            for (int machine = 0; machine < 3; machine++) {
                due("machine " + machine + " behind " + n, x.morning(machine, n, 0), nights[n][machine]);
            }
        }
        TypewritersKnow y = with(2);
        y.mend(0, 2, 0);
        y.mend(1, 2, 12);
        due("from 0 up", y.morning(0, 6, 2), 6);
        due("from 12 down", y.morning(1, 5, 2), 7);
        due("no further", y.morning(0, 7, 2), 6);
    }

    // ---- 26: alike

    @Says("ALIKE: behind how many nights (0 .. 99) all MACHINES are alike; NOT.")
    static void p26_noNights() {
        due("no machines", new TypewritersKnow().alike(), 0);
        due("one", with(1).alike(), 0);
        due("eight like ones", with(8).alike(), 0);
        TypewritersKnow x = with(8);
        x.mend(7, 3, 99);
        due("AGE is no habit", x.alike(), 0);
        for (int machine = 0; machine < 8; machine++) {
            for (int habit = 0; habit < 3; habit++) {
                TypewritersKnow y = with(8);
                y.mend(machine, habit, 5);
                due("one of all is unlike", y.alike(), NOT);
            }
        }
    }

    /** No MACHINES are alike behind more than 6 nights, if they ever are (12 0 12 0 .. are), so 99 itself never counts. */
    @Says("behind how many nights (0 .. 99) all MACHINES are alike; NOT.")
    static void p26_sixNightsAreTheMost() {
        TypewritersKnow x = with(2);
        x.mend(0, 0, 7);
        x.mend(1, 0, 5);
        due("one night", x.alike(), 1);
        x.mend(0, 2, 12);
        x.mend(1, 2, 0);
        due("six nights", x.alike(), 6);
        TypewritersKnow y = with(8);
        for (int machine = 0; machine < 8; machine++) {
            y.mend(machine, 1, machine % 2 == 0 ? 12 : 0);
        }
        due("six nights of eight", y.alike(), 6);
    }

    @Says("all MACHINES are alike; NOT.")
    static void p26_notIfTheyNeverAre() {
        still(NOT, "never", x -> x.alike());
        TypewritersKnow x = with(2);
        x.mend(0, 1, 7);
        due("by turns", x.alike(), NOT);
        x.mend(0, 1, 8);
        due("two apart", x.alike(), 1);
        x.mend(0, 2, 9);
        due("three apart in another habit", x.alike(), NOT);
    }

    // ---- 27: price

    @Says("PRICE. BAD.")
    static void p27_badNoSuchMachine() {
        for (int machine : NO_NUMBERS) {
            still(BAD, "machine " + machine, x -> x.price(machine));
        }
        due("no machines", with(0, 0).price(0), BAD);
        // The nearest to MACHINE 2 is WRITER 1, 5 apart.
        still(100 - 15 - 49, "machine 2", x -> x.price(2));
    }

    @Says("(no WRITERS: 50 less)")
    static void p27_noWriters() {
        TypewritersKnow x = with(1);
        due("no writers", x.price(0), 50);
        x.mend(0, 3, 99);
        due("AGE 99, too", x.price(0), 1);
        x.writer(SIXES);
        due("one writer", x.price(0), 51);
    }

    @Says("less AGE by 2 (cut)")
    static void p27_ageByTwoIsCut() {
        TypewritersKnow x = with(1, SIXES);
        int[][] rows = {{0, 100}, {1, 100}, {2, 99}, {3, 99}, {98, 51}, {99, 51}};
        for (int[] row : rows) {
            x.mend(0, 3, row[0]);
            due("AGE " + row[0], x.price(0), row[1]);
        }
    }

    @Says("0 at least")
    static void p27_zeroAtLeast() {
        TypewritersKnow x = with(1, code(0, 0, 0));
        pulls(x, 0, 11, 11, 11);
        due("FAR 33", x.price(0), 1);
        x.mend(0, 3, 2);
        due("FAR 33, AGE 2", x.price(0), 0);
        x.mend(0, 3, 4);
        due("FAR 33, AGE 4", x.price(0), 0);
        pulls(x, 0, 12, 12, 12);
        x.mend(0, 3, 99);
        due("FAR 36, AGE 99", x.price(0), 0);
    }

    @Says("less 3 for each that it is FAR from the WRITER nearest to it")
    static void p27_theNearestOfAll() {
        TypewritersKnow x = with(1, 0, 0, 0, 0, 0, 0, 0, code(6, 6, 5));
        due("the eighth is nearest", x.price(0), 97);
        x.mend(7, 6, 6);
        due("like", x.price(0), 100);
    }

    // ---- 28: buy

    @Says("to buy for v pence (0 .. 999) at most")
    static void p28_vIsFrom0To999() {
        int[] none = {-1, 1000, MIN, MAX};
        for (int v : none) {
            still(BAD, "v " + v, x -> x.buy(v, 0));
        }
        TypewritersKnow x = with(8, SIXES);
        due("999 for eight of 100", x.buy(999, 0), 8);
        due("all bits", x.buy(999, 1), 255);
        due("0", x.buy(0, 0), 0);
        due("no bits", x.buy(0, 1), 0);
    }

    @Says("BUY: how many (what 0), which (1). BAD.")
    static void p28_badNoSuchWhat() {
        int[] none = {-1, 2, MIN, MAX};
        for (int what : none) {
            still(BAD, "what " + what, x -> x.buy(5, what));
        }
        due("no machines, how many", new TypewritersKnow().buy(999, 0), 0);
        due("no machines, which", new TypewritersKnow().buy(999, 1), 0);
    }

    @Says("for v pence (0 .. 999) at most so that most are bought")
    static void p28_asManyAsThePenceReachFor() {
        TypewritersKnow x = with(8, SIXES);
        int[][] rows = {{99, 0, 0}, {100, 1, 1}, {199, 1, 1}, {200, 2, 3}, {799, 7, 127}, {800, 8, 255}};
        for (int[] row : rows) {
            due("how many for " + row[0], x.buy(row[0], 0), row[1]);
            due("which for " + row[0], x.buy(row[0], 1), row[2]);
        }
    }

    @Says("for v pence (0 .. 999) at most so that most are bought")
    static void p28_whatCostsNothingIsBoughtToo() {
        TypewritersKnow x = with(3, code(0, 0, 0));
        pulls(x, 0, 0, 0, 0);
        pulls(x, 1, 12, 12, 12);
        pulls(x, 2, 12, 12, 12);
        due("for nothing", x.buy(0, 0), 2);
        due("for nothing", x.buy(0, 1), 6);
        due("for 100", x.buy(100, 1), 7);
    }

    @Says("(of like ones least pence, then least bits)")
    static void p28_leastPenceThenLeastBits() {
        TypewritersKnow x = with(3, SIXES);
        x.mend(1, 0, 7);
        x.mend(2, 0, 5);
        // 100, 97, 97
        int[][] rows = {{96, 0}, {97, 2}, {100, 2}, {193, 2}, {194, 6}, {197, 6}, {293, 6}, {294, 7}};
        for (int[] row : rows) {
            due("which for " + row[0], x.buy(row[0], 1), row[1]);
        }
        x.mend(0, 3, 6);
        due("all of 97", x.buy(97, 1), 1);
        due("two of 97", x.buy(194, 1), 3);
        x.mend(2, 3, 2);
        due("the third for 96", x.buy(97, 1), 4);
        due("with the first", x.buy(194, 1), 5);
    }

    // ---- 29: drawn

    @Says("n days (1 .. 30) of m LETTERS (1 .. 30)")
    static void p29_nAndMAreFrom1To30() {
        int[] none = {0, 1, 30, 99, 100, 131, 199, 3000, 3031, 3099, 3100, 3101, 3130, -1, -101, -3030, MIN, MAX};
        for (int nm : none) {
            still(BAD, "nm " + nm, x -> x.drawn(0, nm, -1));
            still(BAD, "nm " + nm + ", machine 0", x -> x.drawn(0, nm, 0));
        }
        TypewritersKnow x = with(1, code(0, 6, 6));
        int[][] rows = {{101, 5, 1}, {130, 0, 30}, {3001, 150, 30}, {3030, 0, 900}, {106, 0, 6}, {105, 1, 5}};
        for (int[] row : rows) {
            due("FAR by " + row[0], x.drawn(77, row[0], -1), row[1]);
            due("how often by " + row[0], x.drawn(77, row[0], 0), row[2]);
        }
    }

    @Says("FAR (machine -1), how often on a MACHINE. BAD.")
    static void p29_badNoSuchMachine() {
        int[] none = {-2, 3, 8, MIN, MAX};
        for (int machine : none) {
            still(BAD, "machine " + machine, x -> x.drawn(0, 101, machine));
        }
        due("no machines", with(0, 0).drawn(0, 101, 0), BAD);
    }

    @Says("(none of either: nothing)")
    static void p29_noneOfEither() {
        due("neither", new TypewritersKnow().drawn(1, 3030, -1), 0);
        due("no machines", with(0, 0).drawn(1, 3030, -1), 0);
        due("no writers", with(1).drawn(1, 3030, -1), 0);
        due("no writers, how often", with(1).drawn(1, 3030, 0), 0);
        due("neither, but nm 100", new TypewritersKnow().drawn(1, 100, -1), BAD);
        due("no writers, but machine 1", with(1).drawn(1, 101, 1), BAD);
    }

    /** Worked out by hand: z of the first draw, z >>> 8 and z >>> 16 by 3. */
    @Says("z = z * 1103515245 + 12345 (an int; SEED at first) ahead of each LETTER")
    static void p29_seedsThatWrap() {
        int[] seeds = {0, 2, -1, MAX, MIN};
        int[] writers = {0, 2, 1, 2, 2};
        int[] machines = {0, 1, 1, 2, 2};
        // FAR of 0 6 6, 6 6 6 and 12 12 6 from three of 6 6 6: 54; one of them typed on by the first: 55, the third: 56.
        int[] far = {55, 54, 56};
        for (int i = 0; i < seeds.length; i++) {
            TypewritersKnow x = with(3, code(0, 6, 6), SIXES, code(12, 12, 6));
            due("FAR by " + seeds[i], x.drawn(seeds[i], 101, -1), far[writers[i]]);
            for (int machine = 0; machine < 3; machine++) {
                due("on " + machine + " by " + seeds[i], x.drawn(seeds[i], 101, machine), machine == machines[i] ? 1 : 0);
            }
        }
        still(5, "in thought", () -> with(1, code(0, 6, 6)), x -> x.drawn(MAX, 101, -1));
    }

    @Says("by the (z >>> 8) % how many-th WRITER on the (z >>> 16) % how many-th MACHINE")
    static void p29_mostDrawsOfMostOfBoth() {
        TypewritersKnow x = with(8, 0, 0, 0, 0, 0, 0, 0);
        int[] often = new int[8];
        int z = MIN + 9;
        for (int i = 0; i < 900; i++) {
            z = z * 1103515245 + 12345;
            often[(z >>> 16) % 8]++;
        }
        for (int machine = 0; machine < 8; machine++) {
            due("on " + machine, x.drawn(MIN + 9, 3030, machine), often[machine]);
        }
        // All are drawn to 0 0 0 on each of the days; 7 WRITERS are as far from a MACHINE as it is from 0 0 0, three times.
        int far = 0;
        z = 5;
        for (int day = 0; day < 30; day++) {
            int[] pulls = {6, 6, 6, 6, 6, 6, 6, 6};
            for (int i = 0; i < 30; i++) {
                z = z * 1103515245 + 12345;
                int on = (z >>> 16) % 8;
                pulls[on] = Math.max(0, pulls[on] - 1);
            }
            for (int pull : pulls) {
                far += 7 * 3 * pull;
            }
        }
        due("FAR", x.drawn(5, 3030, -1), far);
    }

    public static void main(String[] args) throws Exception {
        run(EdgesOfWhoseTest.class, 18, 29);
    }
}
