/** The edges of promises 30 to 37: typing, cleaning, learning in deed, an image, undone and done again. */
public final class EdgesOfDeedsTest extends Edges {
    private static final int[] NO_PAIRS = {-1, -10, 3, 7, 8, 9, 13, 23, 29, 30, 33, 80, 99, 100, MIN, MAX};
    private static final int[] NO_NUMBERS = {-1, 3, 8, MIN, MAX};

    private static void pullsAre(TypewritersKnow x, int machine, int first, int second, int third) {
        due("pull 0 of " + machine, x.of(machine, 0), first);
        due("pull 1 of " + machine, x.of(machine, 1), second);
        due("pull 2 of " + machine, x.of(machine, 2), third);
    }

    private static void handsAre(TypewritersKnow x, int writer, int first, int second, int third) {
        due("hand 0 of " + writer, x.of(writer, 4), first);
        due("hand 1 of " + writer, x.of(writer, 5), second);
        due("hand 2 of " + writer, x.of(writer, 6), third);
    }

    // ---- 30: types

    @Says("A LETTER is TYPED: what it SHOWS (a code). BAD.")
    static void p30_badNoSuchPair() {
        for (int wm : NO_PAIRS) {
            still(BAD, "wm " + wm, x -> x.types(wm));
        }
        due("a machine, nobody", with(1).types(0), BAD);
        due("nothing, a writer", with(0, 0).types(0), BAD);
        TypewritersKnow x = with(8, 0, 0, 0, 0, 0, 0, 0, 0);
        due("the last pair", x.types(77), code(4 * 6 / 12, 2, 2));
        due("none of all", x.types(78), BAD);
        due("its machine alone", x.of(7, 3), 1);
        due("its machine alone", x.of(6, 3), 0);
    }

    @Says("A LETTER is TYPED: what it SHOWS (a code).")
    static void p30_byThatWriterOnThatMachine() {
        TypewritersKnow x = agency();
        // HANDS 12 0 3, PULLS 12 1 7, GRIPS 3 4 5: 144, 4 and 56 by 12.
        due("types(12)", x.types(12), code(12, 0, 4));
        pullsAre(x, 2, 12, 0, 6);
        pullsAre(x, 1, 0, 12, 3);
        due("letters", x.led(0), 2);
        due("all showed", x.led(3), 18 + 16);
        due("latest", x.led(4), 2);
        // HANDS 6 6 6, PULLS 0 12 3: 54, 96 and 57 by 12.
        due("types(21)", x.types(21), code(4, 8, 4));
        pullsAre(x, 1, 1, 11, 4);
        due("all showed", x.led(3), 18 + 16 + 16);
        due("latest", x.led(4), 1);
    }

    @Says("AGE is one more (99 at most).")
    static void p30_ageIs99AtMost() {
        TypewritersKnow x = with(1, 0);
        x.mend(0, 3, 98);
        x.types(0);
        due("99", x.of(0, 3), 99);
        x.types(0);
        due("still 99", x.of(0, 3), 99);
    }

    @Says("each PULL is one nearer to that HAND (if they are unlike)")
    static void p30_aPullLikeTheHandStays() {
        TypewritersKnow x = with(1, code(0, 12, 6));
        pulls(x, 0, 1, 11, 6);
        x.types(0);
        pullsAre(x, 0, 0, 12, 6);
        x.types(0);
        pullsAre(x, 0, 0, 12, 6);
    }

    @Says("what it SHOWS (a code)")
    static void p30_theLeastAndTheLastCode() {
        TypewritersKnow x = with(2, 0, 2196);
        pulls(x, 0, 0, 0, 0);
        pulls(x, 1, 12, 12, 12);
        due("least", x.types(0), 0);
        due("last", x.types(11), 2196);
        due("all showed", x.led(3), 36);
    }

    @Says("Behind it each PULL is one nearer to that HAND")
    static void p30_itShowsWhatStoodAheadOfIt() {
        TypewritersKnow x = with(1, code(0, 12, 6));
        tell(x, "a*12");
        due("AGE 0: HANDS", x.types(0), code(0, 12, 6));
        due("AGE 1: PULLS of now", x.types(0), code(5, 7, 6));
    }

    // ---- 31: clean

    @Says("A MACHINE is CLEANED: its AGE till then. BAD.")
    static void p31_badNoSuchMachine() {
        for (int machine : NO_NUMBERS) {
            still(BAD, "machine " + machine, x -> x.clean(machine));
        }
        due("no machines", with(0, 0).clean(0), BAD);
    }

    @Says("a MACHINE is CLEANED (PULLS 6, AGE 0)")
    static void p31_pulls6Age0() {
        TypewritersKnow x = with(2);
        pulls(x, 0, 0, 12, 7);
        pulls(x, 1, 1, 2, 3);
        x.mend(0, 3, 99);
        x.mend(1, 3, 5);
        due("AGE 99", x.clean(0), 99);
        pullsAre(x, 0, 6, 6, 6);
        due("age", x.of(0, 3), 0);
        pullsAre(x, 1, 1, 2, 3);
        due("another's age", x.of(1, 3), 5);
        due("a clean one", x.clean(0), 0);
        due("both count", x.led(1), 2);
        due("the last", x.clean(1), 5);
        pullsAre(x, 1, 6, 6, 6);
    }

    // ---- 32: learn

    @Says("A WRITER LEARNS from a MACHINE: its HANDS then (a code). BAD.")
    static void p32_badNoSuchPair() {
        for (int wm : NO_PAIRS) {
            still(BAD, "wm " + wm, x -> x.learn(wm));
        }
        due("a machine, nobody", with(1).learn(0), BAD);
        due("nothing, a writer", with(0, 0).learn(0), BAD);
    }

    @Says("a WRITER LEARNS from a MACHINE (each HAND one nearer to PULL)")
    static void p32_oneNearerAndNoFurther() {
        TypewritersKnow x = with(1, code(0, 12, 6), code(3, 3, 3));
        pulls(x, 0, 1, 11, 6);
        due("one nearer", x.learn(0), code(1, 11, 6));
        due("no further", x.learn(0), code(1, 11, 6));
        handsAre(x, 0, 1, 11, 6);
        handsAre(x, 1, 3, 3, 3);
        due("both count", x.led(2), 2);
        pullsAre(x, 0, 1, 11, 6);
        due("no letter", x.of(0, 3), 0);
    }

    @Says("A WRITER LEARNS from a MACHINE: its HANDS then (a code).")
    static void p32_thatWriterFromThatMachine() {
        TypewritersKnow x = agency();
        due("learn(12)", x.learn(12), code(12, 1, 4));
        handsAre(x, 1, 12, 1, 4);
        due("learn(21)", x.learn(21), code(5, 7, 5));
        handsAre(x, 2, 5, 7, 5);
        handsAre(x, 0, 0, 12, 6);
    }

    @Says("its HANDS then (a code)")
    static void p32_theLeastAndTheLastCode() {
        TypewritersKnow x = with(2, code(1, 1, 1), code(11, 11, 11));
        pulls(x, 0, 0, 0, 0);
        pulls(x, 1, 12, 12, 12);
        due("least", x.learn(0), 0);
        due("last", x.learn(11), 2196);
        due("least again", x.learn(0), 0);
        due("last again", x.learn(11), 2196);
    }

    // ---- 33: led

    @Says("all SHOWED (3), the latest MACHINE (4; NOT). BAD.")
    static void p33_badNoSuchWhat() {
        int[] none = {-1, 5, MIN, MAX};
        for (int what : none) {
            still(BAD, "what " + what, x -> x.led(what));
        }
        long[] all = {1, 1, 1, 18, 0};
        for (int what = 0; what <= 4; what++) {
            int of = what;
            still(all[what], "what " + what, x -> x.led(of));
        }
    }

    @Says("the latest LETTER's MACHINE (NOT)")
    static void p33_noLatestMachine() {
        TypewritersKnow x = with(8, 0);
        for (int what = 0; what <= 3; what++) {
            due("what " + what, x.led(what), 0);
        }
        due("no letter", x.led(4), NOT);
        x.clean(3);
        x.learn(5);
        due("no letter, but deeds", x.led(4), NOT);
        x.types(7);
        due("the last machine", x.led(4), 7);
        x.types(0);
        due("machine 0", x.led(4), 0);
        x.clean(2);
        x.learn(1);
        due("deeds that are no letters", x.led(4), 0);
    }

    @Says("What is answered so changes nothing.")
    static void p33_refusedDeedsAreNotLed() {
        TypewritersKnow x = with(1, 0);
        x.types(1);
        x.types(10);
        x.clean(1);
        x.learn(1);
        x.learn(10);
        for (int what = 0; what <= 3; what++) {
            due("what " + what, x.led(what), 0);
        }
        due("latest", x.led(4), NOT);
    }

    @Says("LED: LETTERS, cleanings, learnings, all that LETTERS SHOWED together")
    static void p33_lettersInThoughtAreNotLed() {
        TypewritersKnow x = with(1, 0);
        x.row(0, BYTES, 60);
        x.letter(0, 29);
        x.later(0, 30, 0, 0);
        x.still(0);
        x.drawn(1, 3030, 0);
        due("letters", x.led(0), 0);
        due("latest", x.led(4), NOT);
    }

    // ---- 34, 35: image, back

    @Says("AN IMAGE is kept: LETTERS.")
    static void p34_anImageOfNothing() {
        TypewritersKnow x = new TypewritersKnow();
        due("image()", x.image(), 0);
        due("back()", x.back(), 0);
        due("latest", x.led(4), NOT);
        x.machine();
        x.writer(0);
        x.types(0);
        due("back() takes the letter, too", x.back(), 0);
        due("latest", x.led(4), NOT);
        due("the machine came since: as it is", x.of(0, 3), 1);
    }

    @Says("AN IMAGE keeps PULLS, AGES, HANDS, what LED tells.")
    static void p34_theLatestImageIsKept() {
        TypewritersKnow x = with(1, 0);
        x.image();
        x.types(0);
        due("second image", x.image(), 1);
        x.types(0);
        x.types(0);
        due("back()", x.back(), 1);
        pullsAre(x, 0, 5, 5, 5);
        due("back() again", x.back(), 1);
        x.types(0);
        pullsAre(x, 0, 4, 4, 4);
        due("back() once more", x.back(), 1);
        pullsAre(x, 0, 5, 5, 5);
    }

    @Says("AN IMAGE keeps PULLS, AGES, HANDS, what LED tells.")
    static void p35_allNumbersOfTheImage() {
        TypewritersKnow x = agency();
        x.image();
        x.types(12);
        x.types(21);
        x.learn(12);
        x.learn(21);
        x.clean(2);
        x.clean(1);
        due("back()", x.back(), 1);
        pullsAre(x, 0, 6, 6, 6);
        pullsAre(x, 1, 0, 12, 3);
        pullsAre(x, 2, 12, 1, 7);
        due("age of 1", x.of(1, 3), 40);
        due("age of 2", x.of(2, 3), 99);
        handsAre(x, 0, 0, 12, 6);
        handsAre(x, 1, 12, 0, 3);
        handsAre(x, 2, 6, 6, 6);
        long[] all = {1, 1, 1, 18, 0};
        for (int what = 0; what <= 4; what++) {
            due("led(" + what + ")", x.led(what), all[what]);
        }
    }

    @Says("STATE: there is none.")
    static void p35_stateThereIsNone() {
        still(STATE, "new", () -> new TypewritersKnow(), x -> x.back());
        still(STATE, "no image", () -> with(2, 0, 1), x -> x.back());
        TypewritersKnow x = with(1, 0);
        x.types(0);
        due("back()", x.back(), STATE);
        due("letters", x.led(0), 1);
        pullsAre(x, 0, 5, 5, 5);
    }

    @Says("It is laid back (MACHINES, WRITERS that came since as they are): LETTERS.")
    static void p35_whatCameSinceIsAsItIs() {
        TypewritersKnow x = with(7, 0, 0, 0, 0, 0, 0, 0);
        x.image();
        x.machine();
        x.writer(2196);
        x.types(77);
        x.types(66);
        x.learn(70);
        x.learn(67);
        due("back()", x.back(), 0);
        due("count(0)", x.count(0), 8);
        due("count(1)", x.count(1), 8);
        pullsAre(x, 7, 7, 7, 7);
        due("age of the new one", x.of(7, 3), 1);
        handsAre(x, 7, 11, 11, 11);
        pullsAre(x, 6, 6, 6, 6);
        due("age of the seventh", x.of(6, 3), 0);
        handsAre(x, 6, 0, 0, 0);
    }

    @Says("AN IMAGE keeps PULLS, AGES, HANDS, what LED tells.")
    static void p35_nothingElseIsLaidBack() {
        TypewritersKnow x = with(1, 0);
        x.image();
        x.mend(0, 7, 1);
        x.mend(0, 8, 2);
        x.mend(0, 0, 3);
        x.mend(0, 3, 44);
        x.mend(0, 4, 5);
        tell(x, "11");
        x.feed('1');
        x.body(0);
        x.keep(0, 0);
        x.row(1, BYTES, 2);
        x.act(0, 1, 1);
        x.clean(0);
        x.learn(0);
        due("back()", x.back(), 0);
        pullsAre(x, 0, 6, 6, 6);
        due("age", x.of(0, 3), 0);
        handsAre(x, 0, 0, 0, 0);
        due("cleanings", x.led(1), 0);
        due("learnings", x.led(2), 0);
        due("touch stays", x.of(0, 7), 1);
        due("ribbon stays", x.of(0, 8), 2);
        due("the law stays", x.shows(0, 0, 1), 11);
        due("the tape stays", x.count(2), 1);
        due("changes stay", x.count(3), 5);
        due("bodies stay", x.count(4), 1);
        due("the trace stays", x.count(5), 2);
        due("a ghost stays", x.taken(0, 0), 0);
        due("a row stays", x.element(1, 1), 0);
        due("undo", x.undo(), 4);
    }

    // ---- 36: undo

    @Says("UNDONE: how many may still be. STATE: none.")
    static void p36_stateNone() {
        still(STATE, "new", () -> new TypewritersKnow(), x -> x.undo());
        TypewritersKnow x = with(1, 0);
        x.mend(0, 0, 1);
        due("the only one", x.undo(), 0);
        due("none", x.undo(), STATE);
        due("pull", x.of(0, 0), 6);
        due("it may still be done again", x.redo(), 0);
        due("pull", x.of(0, 0), 1);
    }

    @Says("telling the same number is none")
    static void p36_theSameNumberIsNoChange() {
        TypewritersKnow x = with(1, 0);
        for (int what = 0; what <= 8; what++) {
            x.mend(0, what, x.of(0, what));
        }
        due("count(3)", x.count(3), 0);
        due("undo", x.undo(), STATE);
        x.mend(0, 3, 5);
        x.mend(0, 3, 5);
        due("one", x.count(3), 1);
        due("undo", x.undo(), 0);
        due("age", x.of(0, 3), 0);
    }

    @Says("What is answered so changes nothing.")
    static void p36_aRefusedNumberIsNoChange() {
        TypewritersKnow x = with(1, 0);
        x.mend(0, 0, 13);
        x.mend(1, 0, 1);
        x.mend(0, 9, 1);
        due("count(3)", x.count(3), 0);
        due("undo", x.undo(), STATE);
    }

    @Says("can be UNDONE, the latest first")
    static void p36_theLatestFirst() {
        TypewritersKnow x = with(1, 0);
        x.mend(0, 3, 1);
        x.mend(0, 3, 2);
        x.mend(0, 8, 0);
        due("undo", x.undo(), 2);
        due("ribbon", x.of(0, 8), 5);
        due("age", x.of(0, 3), 2);
        due("undo", x.undo(), 1);
        due("age", x.of(0, 3), 1);
        due("undo", x.undo(), 0);
        due("age", x.of(0, 3), 0);
    }

    /** A MACHINE whose AGE was told 1, 2, .. one behind the other. */
    private static TypewritersKnow aged(int changes) {
        TypewritersKnow x = with(1, 0);
        for (int i = 1; i <= changes; i++) {
            x.mend(0, 3, i);
        }
        return x;
    }

    private static void undoAll(int changes, int may, int age) {
        TypewritersKnow x = aged(changes);
        due("count(3) of " + changes, x.count(3), may);
        for (int i = may - 1; i >= 0; i--) {
            due("undo", x.undo(), i);
        }
        due("no more", x.undo(), STATE);
        due("AGE of " + changes, x.of(0, 3), age);
        for (int i = may - 1; i >= 0; i--) {
            due("redo", x.redo(), i);
        }
        due("no more", x.redo(), STATE);
        due("AGE of " + changes, x.of(0, 3), changes);
    }

    @Says("40 at most are kept")
    static void p36_fortyAtMostAreKept() {
        undoAll(39, 39, 0);
        undoAll(40, 40, 0);
        undoAll(41, 40, 1);
        undoAll(80, 40, 40);
        undoAll(99, 40, 59);
    }

    /** Each of the changes is of another number than the one ahead of it. */
    @Says("CHANGES (all numbers of mend(); telling the same number is none) can be UNDONE")
    static void p36_fortyOfAllNumbers() {
        TypewritersKnow x = with(8, 0, 0, 0, 0, 0, 0, 0, 0);
        int[][] told = new int[45][];
        for (int i = 0; i < 45; i++) {
            int what = i % 9;
            int number = what == 8 ? 0 : i % 8;
            int v = (x.of(number, what) + 1 + i % 5) % 9;
            told[i] = new int[] {number, what, x.mend(number, what, v), v};
        }
        for (int i = 44; i >= 5; i--) {
            due("undo", x.undo(), i - 5);
            due("number " + i, x.of(told[i][0], told[i][1]), told[i][2]);
        }
        due("no more", x.undo(), STATE);
        due("the fifth is gone", x.of(told[4][0], told[4][1]), told[4][3]);
        for (int i = 5; i < 45; i++) {
            due("redo", x.redo(), 44 - i);
            due("number " + i, x.of(told[i][0], told[i][1]), told[i][3]);
        }
    }

    @Says("40 at most are kept")
    static void p36_fortyWithOneUndone() {
        TypewritersKnow x = aged(40);
        due("undo", x.undo(), 39);
        due("another", x.mend(0, 3, 90), 39);
        due("forty", x.count(3), 40);
        due("one more", x.mend(0, 3, 91), 90);
        due("still forty", x.count(3), 40);
        for (int i = 39; i >= 0; i--) {
            due("undo", x.undo(), i);
        }
        due("the oldest is gone", x.of(0, 3), 1);
    }

    @Says("deeds are none (PULL, AGE, HAND by them, too)")
    static void p36_deedsAreNone() {
        TypewritersKnow x = with(1, code(0, 0, 0));
        x.types(0);
        x.learn(0);
        x.clean(0);
        x.image();
        x.back();
        due("count(3)", x.count(3), 0);
        due("undo", x.undo(), STATE);
        x.mend(0, 0, 9);
        x.types(0);
        due("pull by the letter", x.of(0, 0), 8);
        due("count(3)", x.count(3), 1);
        due("undo", x.undo(), 0);
        due("as it was ahead of the change", x.of(0, 0), 6);
        due("AGE by the letter stays", x.of(0, 3), 1);
        due("another PULL by it stays", x.of(0, 1), 5);
    }

    // ---- 37: redo

    @Says("DONE AGAIN: how many may still be. STATE: none.")
    static void p37_stateNone() {
        still(STATE, "new", () -> new TypewritersKnow(), x -> x.redo());
        TypewritersKnow x = aged(2);
        due("nothing undone", x.redo(), STATE);
        x.undo();
        x.undo();
        due("two undone", x.redo(), 1);
        due("age", x.of(0, 3), 1);
        due("may be undone", x.count(3), 1);
        due("one undone", x.redo(), 0);
        due("age", x.of(0, 3), 2);
        due("none", x.redo(), STATE);
        due("age", x.of(0, 3), 2);
        due("may be undone", x.count(3), 2);
    }

    @Says("and DONE AGAIN (as long as no other came behind)")
    static void p37_noOtherCameBehind() {
        TypewritersKnow x = aged(3);
        x.undo();
        x.undo();
        x.mend(0, 8, 9);
        due("another came", x.redo(), STATE);
        due("count(3)", x.count(3), 2);
        due("undo of the other", x.undo(), 1);
        due("the other again", x.redo(), 0);
        due("ribbon", x.of(0, 8), 9);
        due("age", x.of(0, 3), 1);
        due("no more", x.redo(), STATE);
    }

    @Says("telling the same number is none")
    static void p37_theSameNumberDoesNotComeBehind() {
        TypewritersKnow x = aged(2);
        x.undo();
        x.mend(0, 3, 1);
        x.mend(0, 8, 5);
        due("redo", x.redo(), 0);
        due("age", x.of(0, 3), 2);
    }

    @Says("deeds are none (PULL, AGE, HAND by them, too)")
    static void p37_deedsDoNotComeBehind() {
        TypewritersKnow x = aged(2);
        x.undo();
        x.types(0);
        x.clean(0);
        x.learn(0);
        x.mend(0, 3, 100);
        due("redo", x.redo(), 0);
        due("age", x.of(0, 3), 2);
        due("undo", x.undo(), 1);
        due("age as it was told", x.of(0, 3), 1);
    }

    @Says("40 at most are kept")
    static void p37_fortyAreDoneAgain() {
        TypewritersKnow x = aged(45);
        for (int i = 0; i < 40; i++) {
            x.undo();
        }
        due("age", x.of(0, 3), 5);
        for (int i = 39; i >= 0; i--) {
            due("redo", x.redo(), i);
            due("age", x.of(0, 3), 45 - i);
        }
        due("no more", x.redo(), STATE);
    }

    public static void main(String[] args) throws Exception {
        run(EdgesOfDeedsTest.class, 30, 37);
    }
}
