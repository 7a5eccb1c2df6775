/** The edges of promises 1 to 7: a new object, machines, writers, their numbers, THE TAPE. */
public final class EdgesOfMachinesTest extends Edges {

    // ---- 1: a new object

    @Says("An agency, no machines, nobody.")
    static void p01_noMachinesNobody() {
        TypewritersKnow x = new TypewritersKnow();
        due("count(0)", x.count(0), 0);
        due("count(1)", x.count(1), 0);
        due("of(0, 0)", x.of(0, 0), BAD);
        due("of(0, 7)", x.of(0, 7), BAD);
        due("far(0)", x.far(0), BAD);
    }

    @Says("SHELVES 0 .. 5 each hold nothing (at first)")
    static void p01_shelvesHoldNothingAtFirst() {
        TypewritersKnow x = new TypewritersKnow();
        for (int shelf = 0; shelf <= 5; shelf++) {
            due("judge " + shelf, x.judge(shelf), NOTHING);
            due("taken " + shelf, x.taken(shelf, 0), NOTHING);
        }
    }

    @Says("RIBBON (0 .. 9; 5 at first).")
    static void p01_ribbon5AtFirst() {
        due("of(0, 8)", new TypewritersKnow().of(0, 8), 5);
    }

    @Says("VOID is -2000000000.")
    static void p01_theNumbersOfTheConstants() {
        due("BAD", TypewritersKnow.BAD, -1);
        due("NOT", TypewritersKnow.NOT, -2);
        due("FULL", TypewritersKnow.FULL, -3);
        due("STATE", TypewritersKnow.STATE, -5);
        due("VOID", TypewritersKnow.VOID, -2000000000);
    }

    @Says("An object is used for at most 512 calls after it has been made")
    static void p01_the512thCallStillAnswers() {
        TypewritersKnow x = with(1, code(6, 6, 6));
        for (int call = 3; call <= 511; call++) {
            due("types(0), call " + call, x.types(0), code(6, 6, 6));
        }
        due("led(0), call 512", x.led(0), 509);
    }

    @Says("All memory is the class's own.")
    static void p01_twoObjectsShareNothing() {
        TypewritersKnow x = agency();
        TypewritersKnow y = new TypewritersKnow();
        due("count(0)", y.count(0), 0);
        y.machine();
        y.mend(0, 0, 1);
        due("of(0, 0) of the other", x.of(0, 0), 6);
        due("taken of the other", x.taken(GHOST, 0), 4);
    }

    // ---- 2: machine

    @Says("MACHINES 0 .. 7, as they come")
    static void p02_numbersAreFrom0To7() {
        TypewritersKnow x = new TypewritersKnow();
        for (int i = 0; i <= 7; i++) {
            due("machine()", x.machine(), i);
        }
    }

    @Says("PULL in each HABIT (0 .. 12; 6 at first), AGE (0 .. 99 letters; 0 at first)")
    static void p02_pull6Age0AtFirst() {
        TypewritersKnow x = with(8);
        for (int i = 0; i <= 7; i++) {
            due("pull 0", x.of(i, 0), 6);
            due("pull 1", x.of(i, 1), 6);
            due("pull 2", x.of(i, 2), 6);
            due("age", x.of(i, 3), 0);
        }
    }

    @Says("A MACHINE: its number. FULL: 8.")
    static void p02_theNinthIsFull() {
        still(FULL, "ninth", () -> with(8), x -> x.machine());
        TypewritersKnow x = with(8);
        x.machine();
        due("tenth", x.machine(), FULL);
        due("count(0)", x.count(0), 8);
        due("of(8, 0)", x.of(8, 0), BAD);
    }

    // ---- 3: machines

    @Says("n (1 .. 8) of them")
    static void p03_nIsFrom1To8() {
        still(BAD, "n 0", x -> x.machines(SHEET, 0, 0));
        still(BAD, "n -1", x -> x.machines(SHEET, 0, -1));
        still(BAD, "n 9", x -> x.machines(SHEET, 0, 9));
        still(BAD, "n least", x -> x.machines(SHEET, 0, MIN));
        still(BAD, "n most", x -> x.machines(SHEET, 0, MAX));
        TypewritersKnow x = new TypewritersKnow();
        x.row(0, BYTES, 60);
        due("n 1", x.machines(0, 0, 1), 1);
        due("count(0)", x.count(0), 1);
        TypewritersKnow y = new TypewritersKnow();
        y.row(0, BYTES, 60);
        due("n 8", y.machines(0, 0, 8), 8);
        due("count(0)", y.count(0), 8);
    }

    @Says("BAD, -12 (no ROW of bytes; a SHELF that holds nothing is missing).")
    static void p03_badNoSuchShelf() {
        still(BAD, "shelf -1", x -> x.machines(-1, 0, 1));
        still(BAD, "shelf 6", x -> x.machines(6, 0, 1));
        still(BAD, "shelf least", x -> x.machines(MIN, 0, 1));
        still(BAD, "shelf most", x -> x.machines(MAX, 0, 1));
    }

    @Says("-12 (no ROW of bytes;")
    static void p03_otherKindsAreMinus12() {
        still(KIND, "shorts", x -> x.machines(BOOK, 0, 1));
        still(KIND, "longs", x -> x.machines(LONG_ROW, 0, 1));
        still(KIND, "a ghost", x -> x.machines(GHOST, 0, 1));
        TypewritersKnow y = new TypewritersKnow();
        y.row(0, INTS, 3);
        y.row(1, BOOLEANS, 3);
        due("ints", y.machines(0, 0, 1), KIND);
        due("booleans", y.machines(1, 0, 1), KIND);
        due("count(0)", y.count(0), 0);
    }

    @Says("Answers, of several the one named first: BAD (-1)")
    static void p03_badAheadOfMinus12AndOfNone() {
        still(BAD, "n 0 of shorts", x -> x.machines(BOOK, 0, 0));
        still(BAD, "n 9 of a ghost", x -> x.machines(GHOST, 0, 9));
        still(BAD, "n 9 of nothing", x -> x.machines(EMPTY, 0, 9));
        still(KIND, "a place below 0 in shorts", x -> x.machines(BOOK, -1, 1));
        still(KIND, "a place behind shorts", x -> x.machines(BOOK, 60, 1));
    }

    @Says("it ends where the row is missing")
    static void p03_endsWhereTheRowIsMissing() {
        still(0, "nothing", x -> x.machines(EMPTY, 0, 1));
        still(0, "nothing, n 8", x -> x.machines(EMPTY, 0, 8));
        still(0, "nothing, place -1", x -> x.machines(EMPTY, -1, 1));
        still(0, "nothing, place most", x -> x.machines(EMPTY, MAX, 1));
    }

    @Says("it ends where the row is missing, ends (within a three, too)")
    static void p03_endsWhereTheRowEnds() {
        TypewritersKnow x = new TypewritersKnow();
        fill(x, 0, BYTES, 1, 2, 3, 4, 5, 6);
        due("two threes for n 8", x.machines(0, 0, 8), 2);
        due("pull 0 of the second", x.of(1, 0), 4);
        due("pull 1 of the second", x.of(1, 1), 5);
        due("pull 2 of the second", x.of(1, 2), 6);
        due("from the last three on", x.machines(0, 3, 8), 1);
        due("from behind the last on", x.machines(0, 6, 8), 0);
        x.row(1, BYTES, 0);
        due("a row of 0", x.machines(1, 0, 1), 0);
        due("count(0)", x.count(0), 3);
    }

    @Says("ends (within a three, too)")
    static void p03_endsWithinAThree() {
        TypewritersKnow x = new TypewritersKnow();
        fill(x, 0, BYTES, 1, 2, 3, 4, 5);
        due("two of three lack none ahead", x.machines(0, 0, 2), 1);
        due("two of three", x.machines(0, 3, 1), 0);
        due("one of three", x.machines(0, 4, 1), 0);
        fill(x, 1, BYTES, 1, 2, 3, 4);
        due("one of three behind one", x.machines(1, 0, 2), 1);
        due("count(0)", x.count(0), 2);
    }

    @Says("one is not so")
    static void p03_endsWhereOneIsNotSo() {
        int[] wrongs = {13, -1, 127, -128};
        for (int place = 0; place < 3; place++) {
            for (int wrong : wrongs) {
                TypewritersKnow x = new TypewritersKnow();
                fill(x, 0, BYTES, 0, 12, 0, 1, 1, 1, 2, 2, 2);
                x.put(0, 3 + place, wrong);
                due(wrong + " at " + (3 + place), x.machines(0, 0, 3), 1);
                due("count(0)", x.count(0), 1);
                due("ahead of it", x.machines(0, 3, 1), 0);
                due("behind it", x.machines(0, 6, 1), 1);
            }
        }
        TypewritersKnow y = new TypewritersKnow();
        fill(y, 0, BYTES, 0, 0, 0, 12, 12, 12);
        due("0 and 12 are so", y.machines(0, 0, 2), 2);
        due("pull 0", y.of(0, 0), 0);
        due("pull 12", y.of(1, 2), 12);
    }

    @Says("or MACHINES are FULL: those ahead came.")
    static void p03_endsWhereMachinesAreFull() {
        TypewritersKnow x = with(6);
        x.row(0, BYTES, 60);
        due("two of eight", x.machines(0, 0, 8), 2);
        due("the seventh", x.of(6, 0), 0);
        due("count(0)", x.count(0), 8);
        due("none", x.machines(0, 0, 1), 0);
        due("count(0)", x.count(0), 8);
        due("FULL is none of its answers, BAD is", x.machines(0, 0, 9), BAD);
    }

    @Says("from place i on")
    static void p03_aPlaceThatIsNotThere() {
        still(0, "place -1", x -> x.machines(SHEET, -1, 1));
        still(0, "place -3", x -> x.machines(SHEET, -3, 2));
        still(0, "place 3", x -> x.machines(SHEET, 3, 1));
        still(0, "place 1", x -> x.machines(SHEET, 1, 1));
        still(0, "least place", x -> x.machines(SHEET, MIN, 8));
        still(0, "most place", x -> x.machines(SHEET, MAX, 8));
        still(0, "most place less 2", x -> x.machines(SHEET, MAX - 2, 8));
    }

    @Says("AGE (0 .. 99 letters; 0 at first)")
    static void p03_age0AtFirst() {
        TypewritersKnow x = new TypewritersKnow();
        fill(x, 0, BYTES, 1, 2, 3, 99);
        x.machines(0, 0, 1);
        due("age", x.of(0, 3), 0);
        due("pull 0", x.of(0, 0), 1);
        due("no change of mend()", x.count(3), 0);
    }

    // ---- 4: writer

    @Says("HANDS as a code 0 .. 2196")
    static void p04_codesAreFrom0To2196() {
        still(BAD, "code -1", x -> x.writer(-1));
        still(BAD, "code 2197", x -> x.writer(2197));
        still(BAD, "least code", x -> x.writer(MIN));
        still(BAD, "most code", x -> x.writer(MAX));
        TypewritersKnow x = new TypewritersKnow();
        due("code 0", x.writer(0), 0);
        due("code 2196", x.writer(2196), 1);
        for (int what = 4; what <= 6; what++) {
            due("hand of code 0", x.of(0, what), 0);
            due("hand of code 2196", x.of(1, what), 12);
        }
    }

    @Says("code: 169 times HABIT 0, 13 times HABIT 1, and HABIT 2")
    static void p04_theCodeWrapsFromHabitToHabit() {
        TypewritersKnow x = new TypewritersKnow();
        int[] codes = {12, 13, 168, 169};
        int[][] hands = {{0, 0, 12}, {0, 1, 0}, {0, 12, 12}, {1, 0, 0}};
        for (int i = 0; i < codes.length; i++) {
            due("writer", x.writer(codes[i]), i);
            for (int habit = 0; habit < 3; habit++) {
                due("hand " + habit + " of code " + codes[i], x.of(i, 4 + habit), hands[i][habit]);
            }
        }
    }

    @Says("WRITERS 0 .. 7, as they come")
    static void p04_numbersAreFrom0To7() {
        TypewritersKnow x = new TypewritersKnow();
        for (int i = 0; i <= 7; i++) {
            due("writer", x.writer(i), i);
        }
    }

    @Says("TOUCH (0 .. 12; 6 at first)")
    static void p04_touch6AtFirst() {
        TypewritersKnow x = with(0, 0, 1, 2, 3, 4, 5, 6, 2196);
        for (int i = 0; i <= 7; i++) {
            due("touch", x.of(i, 7), 6);
        }
    }

    @Says("its number. BAD, FULL: 8.")
    static void p04_theNinthIsFull() {
        Maker full = () -> with(0, 0, 1, 2, 3, 4, 5, 6, 7);
        still(FULL, "ninth", full, x -> x.writer(0));
        still(FULL, "ninth, last code", full, x -> x.writer(2196));
        due("of(8, 4)", full.make().of(8, 4), BAD);
    }

    @Says("Answers, of several the one named first: BAD (-1)")
    static void p04_badAheadOfFull() {
        still(BAD, "code 2197", () -> with(0, 0, 1, 2, 3, 4, 5, 6, 7), x -> x.writer(2197));
        still(BAD, "code -1", () -> with(0, 0, 1, 2, 3, 4, 5, 6, 7), x -> x.writer(-1));
    }

    // ---- 5: mend

    private static final int[] TOPS = {12, 12, 12, 99, 12, 12, 12, 12, 9};

    @Says("PULL in each HABIT (0 .. 12; 6 at first)")
    static void p05_pullIsFrom0To12() {
        rangeOf(0);
        rangeOf(1);
        rangeOf(2);
    }

    @Says("AGE (0 .. 99 letters; 0 at first)")
    static void p05_ageIsFrom0To99() {
        rangeOf(3);
    }

    @Says("HAND in each HABIT (0 .. 12; 6 at first)")
    static void p05_handIsFrom0To12() {
        rangeOf(4);
        rangeOf(5);
        rangeOf(6);
    }

    @Says("TOUCH (0 .. 12; 6 at first)")
    static void p05_touchIsFrom0To12() {
        rangeOf(7);
    }

    @Says("RIBBON (0 .. 9; 5 at first)")
    static void p05_ribbonIsFrom0To9() {
        rangeOf(8);
    }

    private static void rangeOf(int what) {
        int top = TOPS[what];
        still(BAD, "what " + what + " -1", x -> x.mend(0, what, -1));
        still(BAD, "what " + what + " too high", x -> x.mend(0, what, top + 1));
        still(BAD, "what " + what + " least", x -> x.mend(0, what, MIN));
        still(BAD, "what " + what + " most", x -> x.mend(0, what, MAX));
        TypewritersKnow x = agency();
        int was = x.of(0, what);
        due("what " + what + " to its top", x.mend(0, what, top), was);
        due("its top", x.of(0, what), top);
        due("what " + what + " to 0", x.mend(0, what, 0), top);
        due("0", x.of(0, what), 0);
    }

    @Says("BAD (-1): no such number")
    static void p05_badNoSuchMachine() {
        for (int what = 0; what <= 3; what++) {
            int of = what;
            still(BAD, "machine 3, what " + what, x -> x.mend(3, of, 1));
            still(BAD, "machine -1, what " + what, x -> x.mend(-1, of, 1));
            still(BAD, "machine 8, what " + what, x -> x.mend(8, of, 1));
            still(BAD, "most machine, what " + what, x -> x.mend(MAX, of, 1));
            still(BAD, "least machine, what " + what, x -> x.mend(MIN, of, 1));
            due("a machine without writers", with(1).mend(0, of, 1), of == 3 ? 0 : 6);
            due("writers without a machine", with(0, 0).mend(0, of, 1), BAD);
        }
    }

    @Says("BAD (-1): no such number")
    static void p05_badNoSuchWriter() {
        for (int what = 4; what <= 7; what++) {
            int of = what;
            still(BAD, "writer 3, what " + what, x -> x.mend(3, of, 1));
            still(BAD, "writer -1, what " + what, x -> x.mend(-1, of, 1));
            still(BAD, "writer 8, what " + what, x -> x.mend(8, of, 1));
            still(BAD, "most writer, what " + what, x -> x.mend(MAX, of, 1));
            still(BAD, "least writer, what " + what, x -> x.mend(MIN, of, 1));
            due("a writer without machines", with(0, 0).mend(0, of, 1), of == 7 ? 6 : 0);
            due("machines without a writer", with(1).mend(0, of, 1), BAD);
        }
    }

    @Says("RIBBON (8; number 0) becomes v: what it was. BAD.")
    static void p05_theRibbonIsOfNumber0() {
        still(BAD, "number 1", x -> x.mend(1, 8, 2));
        still(BAD, "number -1", x -> x.mend(-1, 8, 2));
        due("without machines, writers", new TypewritersKnow().mend(0, 8, 2), 5);
    }

    @Says("PULL in HABITS 0, 1, 2 (what 0, 1, 2), AGE (3) of a MACHINE")
    static void p05_badNoSuchWhat() {
        still(BAD, "what -1", x -> x.mend(0, -1, 1));
        still(BAD, "what 9", x -> x.mend(0, 9, 1));
        still(BAD, "most what", x -> x.mend(0, MAX, 1));
        still(BAD, "least what", x -> x.mend(0, MIN, 1));
    }

    @Says("becomes v: what it was.")
    static void p05_theSameNumberIsNotRefused() {
        due("pull", agency().mend(1, 1, 12), 12);
        due("age", agency().mend(2, 3, 99), 99);
        due("ribbon", agency().mend(0, 8, 3), 3);
    }

    @Says("PULL in HABITS 0, 1, 2 (what 0, 1, 2), AGE (3) of a MACHINE, HAND in HABITS 0, 1, 2 (4, 5, 6), TOUCH (7) of a WRITER")
    static void p05_theEighthOfBothAlone() {
        TypewritersKnow x = with(8, 0, 0, 0, 0, 0, 0, 0, 0);
        for (int what = 0; what <= 7; what++) {
            x.mend(7, what, what + 1);
        }
        for (int what = 0; what <= 7; what++) {
            due("of(7, " + what + ")", x.of(7, what), what + 1);
            due("of(6, " + what + ")", x.of(6, what), what < 3 || what == 7 ? 6 : 0);
        }
    }

    // ---- 6: of

    @Says("As of mend() (0 to 8). BAD.")
    static void p06_badNoSuchNumber() {
        int[] none = {3, -1, 8, MIN, MAX};
        for (int number : none) {
            for (int what = 0; what <= 8; what++) {
                int of = what;
                still(BAD, "of(" + number + ", " + what + ")", x -> x.of(number, of));
            }
        }
        due("the last machine", agency().of(2, 3), 99);
        due("the last writer", agency().of(2, 7), 12);
    }

    @Says("As of mend() (0 to 8). BAD.")
    static void p06_badNoSuchWhat() {
        still(BAD, "what -1", x -> x.of(0, -1));
        still(BAD, "what 9", x -> x.of(0, 9));
        still(BAD, "least what", x -> x.of(0, MIN));
        still(BAD, "most what", x -> x.of(0, MAX));
    }

    @Says("As of mend() (0 to 8). BAD.")
    static void p06_theRibbonIsOfNumber0() {
        still(3, "of(0, 8)", x -> x.of(0, 8));
        still(BAD, "of(1, 8)", x -> x.of(1, 8));
    }

    // ---- 7: feed

    @Says("A byte (0 .. 255) comes to THE TAPE: how many it has.")
    static void p07_bytesAreFrom0To255() {
        still(BAD, "byte -1", x -> x.feed(-1));
        still(BAD, "byte 256", x -> x.feed(256));
        still(BAD, "least", x -> x.feed(MIN));
        still(BAD, "most", x -> x.feed(MAX));
        TypewritersKnow x = new TypewritersKnow();
        due("byte 0", x.feed(0), 1);
        due("byte 255", x.feed(255), 2);
        due("count(2)", x.count(2), 2);
    }

    /** A law of 120 bytes by which the GRIP is 7, still on THE TAPE. */
    private static TypewritersKnow fullTape() {
        TypewritersKnow x = with(1, 0);
        for (int i = 0; i < 119; i++) {
            x.feed(i % 2 == 0 ? '0' : '+');
        }
        x.feed('7');
        return x;
    }

    @Says("BAD, FULL (120).")
    static void p07_the121stIsFull() {
        TypewritersKnow x = new TypewritersKnow();
        for (int i = 1; i <= 120; i++) {
            due("feed", x.feed('1'), i);
        }
        due("121st", x.feed('1'), FULL);
        due("122nd", x.feed('1'), FULL);
        due("count(2)", x.count(2), 120);
        due("the law of it is as without the two", x.law(), -104);
        due("it is empty then", x.feed('1'), 1);
    }

    @Says("What is answered so changes nothing.")
    static void p07_fullLeavesTheBytes() {
        TypewritersKnow x = fullTape();
        due("121st", x.feed('x'), FULL);
        due("count(2)", x.count(2), 120);
        due("law()", x.law(), 1);
        due("grip", x.shows(0, 0, 1), 7);
    }

    @Says("Answers, of several the one named first: BAD (-1)")
    static void p07_badAheadOfFull() {
        due("byte 256", fullTape().feed(256), BAD);
        due("byte -1", fullTape().feed(-1), BAD);
    }

    public static void main(String[] args) throws Exception {
        run(EdgesOfMachinesTest.class, 1, 7);
    }
}
