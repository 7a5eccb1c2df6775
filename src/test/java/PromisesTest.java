/** One part for each promise of the document, worked out by hand: ordinary inputs, its edges, wrong inputs. */
public final class PromisesTest {
    private static final int BAD = TypewritersKnow.BAD, NOT = TypewritersKnow.NOT;
    private static final int FULL = TypewritersKnow.FULL, STATE = TypewritersKnow.STATE;
    private static final int MIN = Integer.MIN_VALUE, MAX = Integer.MAX_VALUE;
    private static int checks = 0;
    private static int wrong = 0;

    private static void due(String what, long got, long want) {
        checks++;
        if (got != want) {
            wrong++;
            System.out.println(what + " answered " + got + ", due is " + want);
        }
    }

    private static TypewritersKnow fresh() {
        return new TypewritersKnow();
    }

    private static int code(int a, int b, int c) {
        return 169 * a + 13 * b + c;
    }

    private static void fill(TypewritersKnow x, int shelf, int sort, long... cells) {
        due("row", x.row(shelf, sort, cells.length), 1);
        for (int i = 0; i < cells.length; i++) {
            due("put " + i, x.put(shelf, i, cells[i]), 1);
        }
    }

    private static void bytes(TypewritersKnow x, int shelf, long... cells) {
        fill(x, shelf, 0, cells);
    }

    private static int tell(TypewritersKnow x, String text) {
        for (int i = 0; i < text.length(); i++) {
            x.feed(text.charAt(i));
        }
        return x.law();
    }

    private static void pulls(TypewritersKnow x, int machine, int a, int b, int c) {
        x.mend(machine, 0, a);
        x.mend(machine, 1, b);
        x.mend(machine, 2, c);
    }

    /** A MACHINE with PULLS and a GRIP told by a law, so that what SHOWS is plain. */
    private static TypewritersKnow agency(String law, int[] machines, int... writers) {
        TypewritersKnow x = fresh();
        for (int i = 0; i < machines.length; i++) {
            x.machine();
            pulls(x, i, machines[i] / 169, machines[i] / 13 % 13, machines[i] % 13);
        }
        for (int writer : writers) {
            x.writer(writer);
        }
        if (law != null) {
            due("law " + law, tell(x, law), 1);
        }
        return x;
    }

    private static void p1() {
        TypewritersKnow x = fresh();
        for (int what = 0; what <= 5; what++) {
            due("1 count " + what, x.count(what), 0);
        }
        for (int what = 0; what <= 3; what++) {
            due("1 led " + what, x.led(what), 0);
        }
        due("1 led 4", x.led(4), NOT);
        due("1 ribbon", x.of(0, 8), 5);
        for (int shelf = 0; shelf <= 5; shelf++) {
            due("1 shelf " + shelf, x.taken(shelf, 0), -11);
        }
        due("1 no image", x.back(), STATE);
        due("1 no trace", x.trace(0), BAD);
        due("1 BAD", BAD, -1);
        due("1 NOT", NOT, -2);
        due("1 FULL", FULL, -3);
        due("1 STATE", STATE, -5);
        due("1 VOID", TypewritersKnow.VOID, -2000000000);
        due("1 two objects are apart", fresh().machine(), 0);
        due("1 two objects are apart", x.count(0), 0);
    }

    private static void p2() {
        TypewritersKnow x = fresh();
        for (int i = 0; i < 8; i++) {
            due("2 machine", x.machine(), i);
            due("2 pull", x.of(i, 0), 6);
            due("2 pull", x.of(i, 1), 6);
            due("2 pull", x.of(i, 2), 6);
            due("2 age", x.of(i, 3), 0);
        }
        due("2 ninth", x.machine(), FULL);
        due("2 count", x.count(0), 8);
    }

    private static void p3() {
        TypewritersKnow x = fresh();
        due("3 missing", x.machines(0, 0, 1), 0);
        due("3 missing, n", x.machines(0, 0, 9), BAD);
        due("3 missing, place below 0", x.machines(0, -1, 1), 0);
        due("3 missing, place below 0", x.machines(5, MIN, 8), 0);
        due("3 missing, place below 0, n", x.machines(0, -1, 0), BAD);
        bytes(x, 0, 0, 12, 6, 1, 2, 13, 5, 5, 5);
        due("3 shelf", x.machines(-1, 0, 1), BAD);
        due("3 shelf", x.machines(6, 0, 1), BAD);
        due("3 place below 0", x.machines(0, -1, 1), 0);
        due("3 place below 0", x.machines(0, -3, 8), 0);
        due("3 place below 0", x.machines(0, MIN, 8), 0);
        due("3 place below 0, shelf", x.machines(6, -1, 1), BAD);
        due("3 place below 0, n", x.machines(0, -1, 9), BAD);
        due("3 n 0", x.machines(0, 0, 0), BAD);
        due("3 n 9", x.machines(0, 0, 9), BAD);
        due("3 place behind", x.machines(0, 9, 1), 0);
        due("3 place behind", x.machines(0, MAX, 8), 0);
        due("3 none came", x.count(0), 0);
        due("3 one is not so", x.machines(0, 0, 3), 1);
        due("3 pull 0", x.of(0, 0), 0);
        due("3 pull 1", x.of(0, 1), 12);
        due("3 pull 2", x.of(0, 2), 6);
        due("3 age", x.of(0, 3), 0);
        due("3 from a place, one", x.machines(0, 1, 1), 1);
        due("3 from a place, pull 2", x.of(1, 2), 1);
        due("3 ends within a three", x.machines(0, 7, 2), 0);
        due("3 up to the end", x.machines(0, 6, 2), 1);
        bytes(x, 0, 3, 4, -1, 3, 4, 5, 99);
        due("3 what stands behind does not matter", x.machines(0, 3, 1), 1);
        due("3 below 0", x.machines(0, 0, 2), 0);
        x.row(1, 1, 6);
        due("3 shorts", x.machines(1, 0, 1), -12);
        due("3 shorts, place below 0", x.machines(1, -1, 1), -12);
        due("3 shorts, n", x.machines(1, 0, 0), BAD);
        x.body(0);
        x.keep(1, 0);
        due("3 ghost", x.machines(1, 0, 1), -12);
        due("3 ghost, place below 0", x.machines(1, MIN, 1), -12);
        x.row(2, 0, 60);
        x.put(2, 3, 4);
        due("3 two of many", x.machines(2, 0, 2), 2);
        due("3 the second", x.of(5, 0), 4);
        due("3 till full", x.machines(2, 0, 8), 2);
        due("3 full", x.machines(2, 0, 8), 0);
        due("3 count", x.count(0), 8);
    }

    private static void p4() {
        TypewritersKnow x = fresh();
        due("4 code", x.writer(-1), BAD);
        due("4 code", x.writer(2197), BAD);
        due("4 first", x.writer(code(3, 0, 12)), 0);
        due("4 hand 0", x.of(0, 4), 3);
        due("4 hand 1", x.of(0, 5), 0);
        due("4 hand 2", x.of(0, 6), 12);
        due("4 touch", x.of(0, 7), 6);
        due("4 last code", x.writer(2196), 1);
        due("4 least code", x.writer(0), 2);
        for (int i = 3; i < 8; i++) {
            due("4 writer", x.writer(i), i);
        }
        due("4 ninth", x.writer(0), FULL);
        due("4 ninth, no code", x.writer(-5), BAD);
        due("4 count", x.count(1), 8);
    }

    private static void p5and6() {
        TypewritersKnow x = fresh();
        due("5 none", x.mend(0, 0, 1), BAD);
        due("6 none", x.of(0, 3), BAD);
        due("6 none", x.of(0, 7), BAD);
        x.machine();
        x.writer(code(1, 2, 3));
        int[] first = {6, 6, 6, 0, 1, 2, 3, 6, 5};
        int[] tops = {12, 12, 12, 99, 12, 12, 12, 12, 9};
        for (int what = 0; what <= 8; what++) {
            due("6 of " + what, x.of(0, what), first[what]);
            due("5 too low " + what, x.mend(0, what, -1), BAD);
            due("5 too high " + what, x.mend(0, what, tops[what] + 1), BAD);
            due("5 mend " + what, x.mend(0, what, tops[what]), first[what]);
            due("5 mend " + what, x.mend(0, what, 0), tops[what]);
            due("6 of " + what, x.of(0, what), 0);
            due("5 no such " + what, x.mend(1, what, 1), BAD);
            due("5 no such " + what, x.mend(-1, what, 1), BAD);
            due("6 no such " + what, x.of(1, what), BAD);
            due("6 no such " + what, x.of(MIN, what), BAD);
        }
        due("5 what", x.mend(0, 9, 1), BAD);
        due("5 what", x.mend(0, -1, 1), BAD);
        due("6 what", x.of(0, 9), BAD);
        due("6 what", x.of(0, -1), BAD);
        due("5 changes", x.count(3), 18);
    }

    private static void p7() {
        TypewritersKnow x = fresh();
        due("7 below", x.feed(-1), BAD);
        due("7 above", x.feed(256), BAD);
        for (int i = 1; i <= 120; i++) {
            due("7 feed", x.feed(i % 2 == 0 ? 0 : 255), i);
        }
        due("7 full", x.feed(0), FULL);
        due("7 full, no byte", x.feed(256), BAD);
        due("7 count", x.count(2), 120);
    }

    private static int grip(String text, int wm, int habit) {
        TypewritersKnow x = fresh();
        x.machine();
        x.machine();
        x.writer(code(2, 9, 6));
        x.mend(1, 3, 7);
        due("8 law " + text, tell(x, text), 1);
        due("8 tape is empty", x.count(2), 0);
        return x.shows(wm, habit, 1);
    }

    private static void p8() {
        due("8 name a", grip("a", 1, 0), 7);
        due("8 name t", grip("t", 1, 0), 6);
        due("8 name h", grip("h", 1, 2), 2);
        due("8 name d", grip("d", 1, 0), 4);
        due("8 name d", grip("d", 1, 1), 3);
        due("8 name r", grip("r", 1, 0), 5);
        due("8 name m", grip("m", 1, 0), 1);
        due("8 held above", grip("9999", 0, 0), 12);
        due("8 held below", grip("-1", 0, 0), 0);
        due("8 product first", grip("2+3*2", 0, 0), 8);
        due("8 left to right", grip("9-4-3", 0, 0), 2);
        due("8 left to right", grip("8/2*2", 0, 0), 8);
        due("8 cut toward 0", grip("12+-7/2", 0, 0), 9);
        due("8 rest toward 0", grip("5+-7%3", 0, 0), 4);
        due("8 by 0", grip("4+7/0", 0, 0), 4);
        due("8 by 0", grip("3+7%0", 0, 0), 3);
        due("8 or", grip("7|0", 0, 0), 1);
        due("8 or", grip("0|0", 0, 0), 0);
        due("8 and", grip("7&2", 0, 0), 1);
        due("8 and", grip("7&0", 0, 0), 0);
        due("8 and ahead of or", grip("1|1&0", 0, 0), 1);
        due("8 less", grip("(3<4)+(4<4)*5", 0, 0), 1);
        due("8 like", grip("(4=4)+(3=4)*5", 0, 0), 1);
        due("8 more", grip("(5>4)+(4>4)*5", 0, 0), 1);
        due("8 sums ahead of less", grip("1+1<3", 0, 0), 1);
        due("8 not", grip("!0+!7", 0, 0), 1);
        due("8 not binds", grip("!0*3", 0, 0), 3);
        due("8 minus minus", grip("--5", 0, 0), 5);
        due("8 wraps", grip("9999*9999*9999>0", 0, 0), (9999 * 9999 * 9999 > 0) ? 1 : 0);
        due("8 wraps", grip("(2147*1000*1000+483*1000+648)<0", 0, 0), 1);
        due("8 least by -1", grip("((2147*1000*1000+483*1000+648)/-1)<0", 0, 0), 1);
        due("8 first line that counts", grip("0?3;m?4;5", 1, 0), 4);
        due("8 first line that counts", grip("0?3;m?4;5", 0, 0), 5);
        due("8 a line without a first E", grip("0;5", 0, 0), 0);
        due("8 none counts", grip("0?3;0?4", 0, 0), 0);
        due("8 below 0 is not 0", grip("-1?3;4", 0, 0), 3);
        due("8 four digits", grip("0008", 0, 0), 8);
        due("8 six open", grip("((((((7))))))", 0, 0), 7);
        due("8 six open", grip("!(!(-(3)))+4", 0, 0), 5);
        due("8 six open", grip("------3", 0, 0), 3);
        due("8 closed ones do not count", grip("(((1)))+(((2)))+-(3)+6", 0, 0), 6);
        String[] texts = {"", "a b", "1+", "1+*", "12345", "((((((((7", "-------3", "!!!!!!!3", "(((((((3", "(1", "(1?2)",
            "1?2?3", "1;", ";1", "1<2<3", "1a", "x", "a?", ")", "1)", "1;;2", "(a;b)", "1?;2", "+1", "a=(b"};
        int[] faults = {0, 1, 2, 2, 4, 6, 6, 6, 6, 2, 2, 3, 2, 0, 3, 1, 0, 2, 0, 1, 2, 2, 2, 0, 3};
        TypewritersKnow x = fresh();
        x.machine();
        x.writer(0);
        due("8 a law", tell(x, "11"), 1);
        for (int i = 0; i < texts.length; i++) {
            due("8 fault of " + texts[i], tell(x, texts[i]), -100 - faults[i]);
            due("8 tape is empty", x.count(2), 0);
        }
        due("8 a fault leaves the law", x.shows(0, 0, 1), 11);
        StringBuilder longest = new StringBuilder("1");
        while (longest.length() < 119) {
            longest.append(longest.length() % 20 == 1 ? "+1" : "+0");
        }
        longest.append("9");
        due("8 120 bytes", tell(x, longest.toString()), 1);
        due("8 most steps", tell(x, "!0" + "+0".repeat(58) + "+5"), 1);
        due("8 most steps", x.shows(0, 0, 1), 6);
        due("8 most lines", tell(x, "0?1;".repeat(29) + "0;12"), 1);
        due("8 most lines", x.shows(0, 0, 1), 0);
        due("8 most lines", tell(x, "0?1;".repeat(29) + "8;12"), 1);
        due("8 most lines", x.shows(0, 0, 1), 8);
        due("8 120 bytes that end too early", tell(x, longest.substring(0, 119) + "-"), -220);
    }

    private static void p9() {
        TypewritersKnow x = agency(null, new int[] {code(12, 0, 5)}, code(0, 12, 6));
        due("9 grip", x.shows(0, 0, 1), 4);
        due("9 shows", x.shows(0, 0, 0), 4);
        due("9 shows", x.shows(0, 1, 0), 8);
        due("9 cut", x.shows(0, 2, 0), (6 * 8 + 5 * 4) / 12);
        x.mend(0, 3, 99);
        due("9 held", x.shows(0, 0, 1), 12);
        x.mend(0, 3, 79);
        due("9 age by 10", x.shows(0, 0, 1), 6 + 7 - 2);
        x.mend(0, 3, 99);
        x.mend(0, 7, 0);
        due("9 held", x.shows(0, 0, 1), 12);
        due("9 all pull", x.shows(0, 0, 0), 12);
        x.mend(0, 7, 12);
        x.mend(0, 3, 9);
        due("9 touch by 3", x.shows(0, 0, 1), 2);
        x.mend(0, 7, 11);
        due("9 touch cut", x.shows(0, 0, 1), 3);
        due("9 nothing changed", x.of(0, 0), 12);
        due("9 nothing changed", x.of(0, 3), 9);
        int[][] bad = {{0, 3, 0}, {0, -1, 0}, {0, 0, 2}, {0, 0, -1}, {1, 0, 0}, {10, 0, 0}, {-1, 0, 0}, {-10, 0, 0},
            {MIN, 0, 0}, {MAX, 0, 0}, {8, 0, 0}, {9, 0, 0}};
        for (int[] args : bad) {
            due("9 bad", x.shows(args[0], args[1], args[2]), BAD);
        }
    }

    private static void p10and11() {
        TypewritersKnow x = agency("12", new int[] {code(6, 6, 6), code(0, 12, 3)}, code(0, 12, 6), code(12, 0, 3));
        due("10 nothing", x.later(0, 1, 0, 0), -11);
        due("11 nothing", x.letter(0, 0), -11);
        x.row(0, 1, 4);
        due("10 shorts", x.later(0, 1, 0, 0), -12);
        due("11 shorts", x.letter(0, -1), -12);
        x.body(0);
        x.keep(0, 0);
        due("10 ghost", x.later(0, 1, 0, 0), -12);
        due("11 ghost", x.letter(0, 0), -12);
        bytes(x, 0, 0, 0, 0, 0, 1, 1, 1, 0, 0);
        due("11 how many", x.letter(0, -1), 4);
        due("11 first", x.letter(0, 0), code(6, 6, 6));
        due("11 second", x.letter(0, 1), code(5, 7, 6));
        due("11 third", x.letter(0, 2), code(0, 12, 3));
        due("11 fourth", x.letter(0, 3), code(4, 8, 6));
        due("11 no fifth", x.letter(0, 4), NOT);
        due("11 none", x.letter(0, MAX), NOT);
        due("11 bad", x.letter(0, -2), BAD);
        due("11 bad", x.letter(6, 0), BAD);
        due("11 bad", x.letter(-1, 0), BAD);
        int[][] behind = {{6, 6, 6, 0}, {5, 7, 6, 1}, {4, 8, 6, 2}, {4, 8, 6, 2}, {5, 7, 5, 3}};
        for (int n = 0; n < 5; n++) {
            for (int what = 0; what < 4; what++) {
                due("10 behind " + n, x.later(0, n, 0, what), behind[n][what]);
            }
        }
        due("10 all", x.later(0, 30, 0, 3), 3);
        due("10 other", x.later(0, 30, 1, 0), 1);
        due("10 other", x.later(0, 2, 1, 0), 0);
        due("10 in thought", x.of(0, 0), 6);
        int[][] bad = {{0, -1, 0, 0}, {0, 31, 0, 0}, {0, 1, 2, 0}, {0, 1, -1, 0}, {0, 1, 0, 4}, {0, 1, 0, -1}, {6, 1, 0, 0}, {-1, 1, 0, 0}};
        for (int[] a : bad) {
            due("10 bad", x.later(a[0], a[1], a[2], a[3]), BAD);
        }
        due("10 bad ahead of -11", x.later(1, 31, 0, 0), BAD);
        bytes(x, 0, 0, 0, 2, 0, 0, 0);
        due("11 no such writer ends it", x.letter(0, -1), 1);
        due("11 no such writer ends it", x.letter(0, 2), NOT);
        bytes(x, 0, 0, 0, 0, -1, 0, 0);
        due("11 no such machine ends it", x.letter(0, -1), 1);
        x.row(0, 0, 60);
        due("11 thirty", x.letter(0, -1), 30);
        due("11 thirtieth", x.letter(0, 29), code(0, 12, 6));
        due("11 no thirty-first", x.letter(0, 30), NOT);
        due("10 thirty", x.later(0, 30, 0, 3), 30);
        x.mend(0, 3, 98);
        due("10 age 99 at most", x.later(0, 30, 0, 3), 99);
        x.row(0, 0, 59);
        due("11 within a two", x.letter(0, -1), 29);
    }

    private static void p12() {
        TypewritersKnow x = agency(null, new int[] {code(6, 6, 6)}, code(0, 6, 6), code(12, 6, 6));
        due("12 bad", x.still(-1), BAD);
        due("12 bad", x.still(6), BAD);
        due("12 nothing", x.still(0), -11);
        x.row(0, 2, 2);
        due("12 ints", x.still(0), -12);
        x.row(0, 0, 0);
        due("12 no letters", x.still(0), 0);
        bytes(x, 0, 0, 0);
        due("12 six rounds", x.still(0), 6);
        bytes(x, 0, 0, 0, 0, 0);
        due("12 three rounds", x.still(0), 3);
        bytes(x, 0, 0, 0, 1, 0);
        due("12 there and back", x.still(0), 0);
        bytes(x, 0, 0, 0, 1, 0, 1, 0);
        due("12 up to where it goes there and back", x.still(0), 6);
        due("12 in thought", x.of(0, 0), 6);
    }

    private static void p13and14() {
        TypewritersKnow x = fresh();
        x.writer(code(0, 12, 6));
        due("14 no machine", x.nearest(0, 0), NOT);
        due("14 no such machine", x.nearest(0, 1), BAD);
        x.machine();
        due("13 far", x.far(0), 12);
        TypewritersKnow y = fresh();
        y.machine();
        due("14 no writer", y.nearest(0, 1), NOT);
        due("14 no such writer", y.nearest(0, 0), BAD);
        x.machine();
        x.mend(1, 0, 3);
        x.mend(1, 1, 9);
        x.machine();
        x.mend(2, 0, 0);
        due("13 far", x.far(1), 6);
        due("13 far", x.far(2), 6);
        due("14 least of like ones", x.nearest(0, 0), 1);
        x.writer(code(6, 6, 6));
        x.writer(code(6, 6, 6));
        due("14 least of like ones", x.nearest(0, 1), 1);
        due("14 writer", x.nearest(1, 1), 0);
        due("13 no sign", x.far(11), 6);
        int[] bad = {3, 30, -1, MIN, MAX, 38, 9};
        for (int wm : bad) {
            due("13 bad", x.far(wm), BAD);
        }
        due("14 bad", x.nearest(3, 0), BAD);
        due("14 bad", x.nearest(-1, 1), BAD);
        due("14 bad", x.nearest(0, 2), BAD);
        due("14 bad", x.nearest(0, -1), BAD);
    }

    private static void p15() {
        TypewritersKnow x = fresh();
        due("15 nobody", x.given(-1), 0);
        due("15 nobody", x.given(0), BAD);
        x.writer(code(6, 6, 6));
        due("15 too few", x.given(-1), STATE);
        due("15 too few", x.given(0), STATE);
        due("15 bad ahead of state", x.given(1), BAD);
        due("15 bad", x.given(-2), BAD);
        x.machine();
        x.machine();
        x.machine();
        due("15 of like ones the first", x.given(0), 0);
        // The first is nearest to MACHINE 0, but the second has farther to go without it.
        x.mend(1, 0, 8);
        x.mend(2, 0, 12);
        x.writer(code(4, 6, 6));
        due("15 all together", x.given(-1), 4);
        due("15 first gets", x.given(0), 0);
        due("15 second gets", x.given(1), 1);
        x.mend(0, 5, 7);
        x.mend(1, 4, 0);
        due("15 all together", x.given(-1), 1 + 8 - 0);
        due("15 first gets", x.given(0), 0);
        x.mend(0, 4, 7);
        due("15 all together", x.given(-1), 2 + 6);
        due("15 first gets", x.given(0), 1);
        due("15 second gets", x.given(1), 0);
        due("15 bad", x.given(2), BAD);
    }

    private static void p16() {
        TypewritersKnow x = agency(null, new int[] {code(6, 6, 6)}, code(0, 12, 6));
        due("16 none", x.teach(0, 6), 0);
        due("16 all the way", x.teach(0, 0), 6);
        due("16 on the way", x.teach(0, 4), 2);
        due("16 away", x.teach(0, 7), NOT);
        due("16 habit 1", x.teach(0, 112), 6);
        due("16 habit 1", x.teach(0, 105), NOT);
        due("16 habit 2", x.teach(0, 206), 0);
        due("16 habit 2", x.teach(0, 207), NOT);
        int[] bad = {13, 99, 113, 213, 300, 306, -1, -100, MIN, MAX};
        for (int hv : bad) {
            due("16 bad " + hv, x.teach(0, hv), BAD);
        }
        due("16 bad", x.teach(1, 0), BAD);
        due("16 bad", x.teach(10, 0), BAD);
        due("16 bad", x.teach(-1, 0), BAD);
    }

    private static void p17() {
        TypewritersKnow x = agency(null, new int[] {code(6, 6, 6)}, code(0, 6, 6), code(12, 6, 6), code(6, 0, 6));
        due("17 none", x.bring(0, code(6, 6, 6), -1), 0);
        due("17 none", x.bring(0, code(6, 6, 6), 0), NOT);
        due("17 two", x.bring(0, code(4, 6, 6), -1), 2);
        due("17 never", x.bring(0, code(6, 6, 7), -1), NOT);
        due("17 never", x.bring(0, code(6, 6, 7), 0), NOT);
        // Each leads the other's HABIT back: 4 6 6 first, then the third one goes to 5 5 6.
        due("17 three", x.bring(0, code(5, 5, 6), -1), 3);
        due("17 first by numbers", x.bring(0, code(5, 5, 6), 0), 0);
        due("17 first by numbers", x.bring(0, code(5, 5, 6), 1), 0);
        due("17 first by numbers", x.bring(0, code(5, 5, 6), 2), 2);
        due("17 not as many", x.bring(0, code(5, 5, 6), 3), NOT);
        due("17 in thought", x.of(0, 0), 6);
        TypewritersKnow y = agency(null, new int[] {code(6, 6, 6)}, code(7, 7, 6), code(7, 6, 7), code(7, 7, 7));
        due("17 like ones", y.bring(0, code(7, 7, 7), -1), 1);
        due("17 like ones", y.bring(0, code(7, 7, 7), 0), 2);
        TypewritersKnow z = agency(null, new int[] {code(6, 6, 6)}, code(0, 0, 6), code(0, 0, 6));
        due("17 of like ones the first", z.bring(0, code(3, 3, 6), 2), 0);
        TypewritersKnow none = agency(null, new int[] {code(6, 6, 6)});
        due("17 no writers", none.bring(0, code(6, 6, 6), -1), 0);
        due("17 no writers", none.bring(0, code(6, 6, 5), -1), NOT);
        int[][] bad = {{1, 0, -1}, {-1, 0, -1}, {0, -1, -1}, {0, 2197, -1}, {0, 0, -2}, {0, MAX, 0}, {MIN, 0, 0}};
        for (int[] a : bad) {
            due("17 bad", x.bring(a[0], a[1], a[2]), BAD);
        }
    }

    private static void p18to20() {
        TypewritersKnow x = agency("0", new int[] {code(6, 6, 6), code(1, 1, 1)}, code(1, 2, 3), code(1, 2, 4), code(4, 2, 3));
        due("18 nothing", x.whose(0, 0), -11);
        due("19 nothing", x.where(0, 0), -11);
        due("20 nothing", x.pairs(0, 0), -11);
        due("18 bad ahead", x.whose(0, 2), BAD);
        due("19 bad ahead", x.where(0, 3), BAD);
        due("20 bad ahead", x.pairs(0, 2), BAD);
        x.row(0, 4, 3);
        due("18 booleans", x.whose(0, 0), -12);
        due("19 booleans", x.where(0, 0), -12);
        due("20 booleans", x.pairs(0, 1), -12);
        bytes(x, 0, 1, 2, 3);
        due("18 whose", x.whose(0, 0), 1);
        due("19 where", x.where(0, 0), 3);
        due("19 nowhere", x.where(0, 1), 0);
        due("20 pairs", x.pairs(0, 0), 2);
        due("20 sure", x.pairs(0, 1), 0);
        bytes(x, 0, 1, 2);
        due("18 what lacks is any", x.whose(0, 0), 3);
        due("20 pairs", x.pairs(0, 0), 4);
        due("20 not sure", x.pairs(0, 1), NOT);
        bytes(x, 0, 4, 2, 3, 99, 99);
        due("18 more do not matter", x.whose(0, 1), 4);
        due("20 sure", x.pairs(0, 1), 2);
        x.row(0, 0, 0);
        due("18 blank", x.whose(0, 0), 7);
        due("19 blank", x.where(0, 2), 3);
        due("20 blank", x.pairs(0, 0), 6);
        bytes(x, 0, -1);
        due("18 nobody", x.whose(0, 0), 0);
        due("20 nobody", x.pairs(0, 1), NOT);
        tell(x, "m=1?12;0");
        bytes(x, 0, 1, 1, 1);
        due("18 by the machine", x.whose(0, 1), 7);
        due("18 by the machine", x.whose(0, 0), 0);
        due("19 by the machine", x.where(0, 2), 2);
        int[][] bad = {{-1, 0}, {6, 0}, {0, -1}};
        for (int[] a : bad) {
            due("18 bad", x.whose(a[0], a[1]), BAD);
            due("19 bad", x.where(a[0], a[1]), BAD);
            due("20 bad", x.pairs(a[0], a[1]), BAD);
        }
    }

    private static void p21() {
        TypewritersKnow x = agency("12", new int[] {code(6, 6, 6), code(6, 6, 6)}, code(0, 12, 6), code(3, 3, 3));
        due("21 nothing", x.between(0, 0, 1), -11);
        x.row(0, 1, 3);
        due("21 shorts", x.between(0, 0, 1), -12);
        bytes(x, 0, 4, 8, 6);
        due("21 two", x.between(0, 0, 1), 2);
        due("21 his own", x.between(0, 0, 0), 2);
        due("21 never", x.between(0, 10, 0), NOT);
        bytes(x, 0, 6);
        due("21 at once", x.between(0, 1, 1), 0);
        due("21 in thought", x.of(0, 3), 0);
        tell(x, "a=60?0;12");
        bytes(x, 0, 3, 3, 3);
        due("21 sixty", x.between(0, 0, 1), 60);
        tell(x, "a=61?0;12");
        due("21 not by sixty", x.between(0, 0, 1), NOT);
        int[][] bad = {{-1, 0, 0}, {6, 0, 0}, {0, 2, 0}, {0, 20, 0}, {0, -1, 0}, {0, 0, 2}, {0, 0, -1}, {1, 0, 2}};
        for (int[] a : bad) {
            due("21 bad", x.between(a[0], a[1], a[2]), BAD);
        }
    }

    private static void p22to24() {
        TypewritersKnow x = agency("r", new int[] {code(6, 6, 6)}, code(0, 6, 6), code(12, 6, 6), code(0, 6, 6));
        due("22 bad", x.judge(-1), BAD);
        due("22 bad", x.judge(6), BAD);
        due("22 nothing", x.judge(0), -11);
        due("23 nothing", x.falseOne(0, 0), -11);
        due("24 nothing", x.ribbons(0, 0), -11);
        x.row(0, 0, 3);
        due("22 bytes", x.judge(0), -12);
        due("23 bytes", x.falseOne(0, 0), -12);
        due("24 bytes", x.ribbons(0, 1), -12);
        x.row(0, 1, 0);
        due("22 empty", x.judge(0), NOT);
        due("23 no three", x.falseOne(0, 0), NOT);
        due("24 empty", x.ribbons(0, 0), 10);
        due("24 empty", x.ribbons(0, 1), 0);
        // GRIP 5 (the RIBBON): 0 * 7 + 6 * 5 = 30 by 12: 2; then PULL 5: 25 by 12: 2; then 12 * 7 + 4 * 5 = 104: 8.
        fill(x, 0, 1, 0, 0, code(2, 6, 6), 0, 0, code(2, 6, 6), 1, 0, code(8, 6, 6));
        due("22 all so", x.judge(0), NOT);
        due("23 another may be", x.falseOne(0, 0), 4);
        due("23 another may be", x.falseOne(0, 1), 4);
        due("23 nobody else", x.falseOne(0, 2), 0);
        due("23 no fourth", x.falseOne(0, 3), NOT);
        due("23 no such", x.falseOne(0, MAX), NOT);
        due("23 bad", x.falseOne(0, -1), BAD);
        due("24 one", x.ribbons(0, 0), 1);
        due("24 least", x.ribbons(0, 1), 5);
        due("24 in thought", x.of(0, 8), 5);
        x.put(0, 6, 0);
        due("22 third is not so", x.judge(0), 2);
        due("23 who", x.falseOne(0, 2), 2);
        due("23 another does not mend it", x.falseOne(0, 0), 0);
        due("24 none", x.ribbons(0, 0), 0);
        due("24 none", x.ribbons(0, 1), NOT);
        x.put(0, 6, 7);
        due("22 none such", x.judge(0), 2);
        due("23 none such", x.falseOne(0, 2), 2);
        x.put(0, 4, -1);
        due("22 no such machine", x.judge(0), 1);
        fill(x, 0, 1, 0, 0, code(2, 6, 6), 0, 0);
        due("22 lacking", x.judge(0), 1);
        due("23 lacking behind it", x.falseOne(0, 0), 0);
        due("23 two of three are no three", x.falseOne(0, 1), NOT);
        fill(x, 0, 1, 0, 0, code(2, 6, 6), 0);
        due("23 one of three is no three", x.falseOne(0, 1), NOT);
        fill(x, 0, 1, 0, 0);
        due("22 lacking at once", x.judge(0), 0);
        due("23 no whole three", x.falseOne(0, 0), NOT);
        // GRIP 0 to 9 by the RIBBON: 0 * (12 - r) + 6 * r by 12 is 1 for r = 2, 3.
        fill(x, 0, 1, 0, 0, code(1, 6, 6));
        due("24 two", x.ribbons(0, 0), 2);
        due("24 least", x.ribbons(0, 1), 2);
        due("24 bad", x.ribbons(0, 2), BAD);
        due("24 bad", x.ribbons(0, -1), BAD);
        due("24 bad", x.ribbons(6, 0), BAD);
        due("23 bad", x.falseOne(6, 0), BAD);
        due("22 in thought", x.of(0, 3), 0);
        fill(x, 0, 1, 0, 0, 30000);
        due("22 no code", x.judge(0), 0);
    }

    private static void p25and26() {
        TypewritersKnow x = fresh();
        due("26 no machines", x.alike(), 0);
        x.machine();
        x.mend(0, 0, 2);
        due("26 one", x.alike(), 0);
        due("25 one", x.morning(0, 60, 0), 2);
        x.machine();
        due("25 now", x.morning(0, 0, 0), 2);
        due("25 one night", x.morning(0, 1, 0), 3);
        due("25 one night, beside the last", x.morning(1, 1, 0), 5);
        due("25 two nights", x.morning(1, 2, 0), 4);
        due("26 two nights", x.alike(), 2);
        x.mend(1, 2, 7);
        due("26 by turns for ever", x.alike(), NOT);
        due("25 by turns", x.morning(0, 59, 2), 7);
        due("25 by turns", x.morning(0, 60, 2), 6);
        x.mend(1, 2, 6);
        x.mend(1, 3, 50);
        due("26 pulls alone", x.alike(), 2);
        x.machine();
        x.mend(2, 0, 9);
        // 2 6 9 -> 3 7 8 -> 4 8 7 -> 5 7 6
        due("25 by number", x.morning(0, 2, 0), 4);
        due("25 by number", x.morning(1, 2, 0), 8);
        due("25 by number", x.morning(2, 3, 0), 6);
        due("25 in thought", x.of(2, 0), 9);
        int[][] bad = {{3, 0, 0}, {-1, 0, 0}, {0, -1, 0}, {0, 61, 0}, {0, 0, 3}, {0, 0, -1}};
        for (int[] a : bad) {
            due("25 bad", x.morning(a[0], a[1], a[2]), BAD);
        }
    }

    private static void p27and28() {
        TypewritersKnow x = fresh();
        due("27 none", x.price(0), BAD);
        due("28 none", x.buy(999, 0), 0);
        x.machine();
        due("27 no writers", x.price(0), 50);
        x.mend(0, 3, 99);
        due("27 age cut", x.price(0), 1);
        x.writer(code(0, 0, 0));
        due("27 0 at least", x.price(0), 0);
        due("28 for nothing", x.buy(0, 1), 1);
        x.writer(code(6, 6, 5));
        due("27 nearest", x.price(0), 100 - 3 - 49);
        due("27 bad", x.price(1), BAD);
        due("27 bad", x.price(-1), BAD);
        x.machine();
        x.machine();
        x.machine();
        due("27 nearest", x.price(1), 97);
        x.mend(1, 3, 20);
        // prices 48, 87, 97, 97
        due("28 least pence", x.buy(97, 1), 1);
        due("28 one", x.buy(97, 0), 1);
        due("28 two", x.buy(135, 1), 3);
        due("28 too little", x.buy(134, 1), 1);
        due("28 three", x.buy(48 + 87 + 97, 1), 7);
        due("28 three", x.buy(328, 0), 3);
        due("28 all", x.buy(329, 1), 15);
        x.mend(0, 3, 0);
        x.mend(1, 3, 0);
        due("28 least bits", x.buy(97, 1), 1);
        due("28 least bits", x.buy(999, 0), 4);
        due("28 nothing", x.buy(96, 1), 0);
        due("28 bad", x.buy(-1, 0), BAD);
        due("28 bad", x.buy(1000, 0), BAD);
        due("28 bad", x.buy(5, 2), BAD);
        due("28 bad", x.buy(5, -1), BAD);
    }

    private static void p29() {
        TypewritersKnow x = fresh();
        due("29 nobody", x.drawn(1, 3030, -1), 0);
        x.machine();
        due("29 no writers", x.drawn(1, 3030, -1), 0);
        due("29 no writers", x.drawn(1, 3030, 0), 0);
        x.writer(code(0, 6, 6));
        due("29 each day from now", x.drawn(1, 302, -1), 3 * 4);
        due("29 how often", x.drawn(1, 302, 0), 6);
        due("29 least", x.drawn(1, 101, -1), 5);
        due("29 most", x.drawn(1, 3030, 0), 900);
        due("29 in thought", x.of(0, 0), 6);
        x.machine();
        int z = -7;
        int often = 0;
        for (int i = 0; i < 30 * 29; i++) {
            z = z * 1103515245 + 12345;
            often += (z >>> 16) % 2;
        }
        due("29 draws go on", x.drawn(-7, 3029, 1), often);
        due("29 draws go on", x.drawn(-7, 3029, 0), 870 - often);
        int[] bad = {0, 1, 100, 3101, 131, 199, -101, -1, MIN, MAX, 3031};
        for (int nm : bad) {
            due("29 bad " + nm, x.drawn(0, nm, -1), BAD);
        }
        due("29 bad", x.drawn(0, 101, 2), BAD);
        due("29 bad", x.drawn(0, 101, -2), BAD);
    }

    private static void p30to33() {
        TypewritersKnow x = agency("12", new int[] {code(6, 6, 6), code(0, 1, 2)}, code(0, 12, 6));
        due("30 bad", x.types(2), BAD);
        due("30 bad", x.types(10), BAD);
        due("30 bad", x.types(-1), BAD);
        due("33 none", x.led(0), 0);
        due("30 typed", x.types(0), code(6, 6, 6));
        due("30 pull", x.of(0, 0), 5);
        due("30 pull", x.of(0, 1), 7);
        due("30 pull", x.of(0, 2), 6);
        due("30 age", x.of(0, 3), 1);
        due("30 typed", x.types(1), code(0, 1, 2));
        due("33 letters", x.led(0), 2);
        due("33 showed", x.led(3), 21);
        due("33 latest", x.led(4), 1);
        x.mend(0, 3, 99);
        due("30 typed", x.types(0), code(5, 7, 6));
        due("30 age 99 at most", x.of(0, 3), 99);
        due("31 bad", x.clean(2), BAD);
        due("31 bad", x.clean(-1), BAD);
        due("31 clean", x.clean(0), 99);
        due("31 pull", x.of(0, 0), 6);
        due("31 pull", x.of(0, 1), 6);
        due("31 age", x.of(0, 3), 0);
        due("32 learn", x.learn(0), code(1, 11, 6));
        due("32 hand", x.of(0, 4), 1);
        due("32 learn", x.learn(1), code(0, 10, 5));
        due("32 no more", x.of(0, 3), 0);
        due("32 bad", x.learn(2), BAD);
        due("32 bad", x.learn(10), BAD);
        due("32 bad", x.learn(MIN), BAD);
        due("33 letters", x.led(0), 3);
        due("33 cleanings", x.led(1), 1);
        due("33 learnings", x.led(2), 2);
        due("33 showed", x.led(3), 39);
        due("33 latest", x.led(4), 0);
        due("33 bad", x.led(5), BAD);
        due("33 bad", x.led(-1), BAD);
    }

    private static void p34and35() {
        TypewritersKnow x = agency("12", new int[] {code(6, 6, 6)}, code(0, 12, 6));
        due("35 none", x.back(), STATE);
        x.types(0);
        due("34 letters", x.image(), 1);
        x.types(0);
        x.learn(0);
        x.clean(0);
        x.mend(0, 7, 2);
        x.mend(0, 8, 1);
        x.mend(0, 3, 44);
        x.machine();
        x.mend(1, 0, 1);
        x.writer(code(1, 1, 1));
        x.mend(1, 4, 9);
        x.types(11);
        int undone = x.count(3);
        due("35 back", x.back(), 1);
        due("35 pull", x.of(0, 0), 5);
        due("35 age", x.of(0, 3), 1);
        due("35 hand", x.of(0, 5), 12);
        due("35 touch stays", x.of(0, 7), 2);
        due("35 ribbon stays", x.of(0, 8), 1);
        due("35 machine that came", x.of(1, 0), 2);
        due("35 its age", x.of(1, 3), 1);
        due("35 writer that came", x.of(1, 4), 9);
        due("35 cleanings", x.led(1), 0);
        due("35 learnings", x.led(2), 0);
        due("35 showed", x.led(3), 18);
        due("35 latest", x.led(4), 0);
        due("35 no change", x.count(3), undone);
        x.types(0);
        due("35 again", x.back(), 1);
        due("35 again", x.of(0, 0), 5);
        x.types(0);
        due("34 another", x.image(), 2);
        x.types(0);
        due("35 the latest", x.back(), 2);
    }

    private static void p36and37() {
        TypewritersKnow x = agency(null, new int[] {code(6, 6, 6)}, code(0, 12, 6));
        due("36 none", x.undo(), STATE);
        due("37 none", x.redo(), STATE);
        x.mend(0, 0, 6);
        due("36 the same number is none", x.undo(), STATE);
        x.mend(0, 0, 9);
        x.mend(0, 3, 50);
        x.mend(0, 4, 1);
        x.mend(0, 7, 2);
        x.mend(0, 8, 3);
        due("47 may be undone", x.count(3), 5);
        due("36 ribbon", x.undo(), 4);
        due("36 ribbon", x.of(0, 8), 5);
        due("36 touch", x.undo(), 3);
        due("36 touch", x.of(0, 7), 6);
        due("36 hand", x.undo(), 2);
        due("36 hand", x.of(0, 4), 0);
        due("37 hand", x.redo(), 2);
        due("37 hand", x.of(0, 4), 1);
        x.mend(0, 0, 9);
        due("37 the same number does not come behind", x.redo(), 1);
        x.types(0);
        x.clean(0);
        due("37 nor do deeds", x.redo(), 0);
        due("37 ribbon", x.of(0, 8), 3);
        due("37 no more", x.redo(), STATE);
        due("36 three", x.undo(), 4);
        x.mend(0, 8, 0);
        due("37 another came behind", x.redo(), STATE);
        for (int i = 4; i >= 1; i--) {
            due("36 on", x.undo(), i);
        }
        due("36 age, behind deeds", x.of(0, 3), 0);
        due("36 last", x.undo(), 0);
        due("36 pull, behind deeds", x.of(0, 0), 6);
        due("36 none", x.undo(), STATE);
        TypewritersKnow y = fresh();
        y.machine();
        for (int i = 1; i <= 43; i++) {
            y.mend(0, 3, i);
        }
        due("36 forty at most", y.count(3), 40);
        for (int i = 39; i >= 0; i--) {
            due("36 forty", y.undo(), i);
        }
        due("36 no more", y.undo(), STATE);
        due("36 the oldest are gone", y.of(0, 3), 3);
        for (int i = 39; i >= 0; i--) {
            due("37 forty", y.redo(), i);
        }
        due("37 the newest", y.of(0, 3), 43);
        mixedChanges();
    }

    /** More changes than are kept, of all numbers in turn, with each step back and forth looked at. */
    private static void mixedChanges() {
        TypewritersKnow x = fresh();
        for (int i = 0; i < 4; i++) {
            x.machine();
            x.writer(code(6, 6, 6));
        }
        int[][] steps = new int[50][];
        for (int i = 0; i < 50; i++) {
            int what = i % 9;
            int number = what == 8 ? 0 : i % 4;
            int v = (x.of(number, what) + 1 + i % 7) % 10;
            steps[i] = new int[] {number, what, x.mend(number, what, v), v};
        }
        for (int i = 49; i >= 10; i--) {
            due("36 mixed", x.undo(), i - 10);
            due("36 mixed number", x.of(steps[i][0], steps[i][1]), steps[i][2]);
        }
        due("36 mixed, no more", x.undo(), STATE);
        for (int i = 10; i < 50; i++) {
            due("37 mixed", x.redo(), 49 - i);
            due("37 mixed number", x.of(steps[i][0], steps[i][1]), steps[i][3]);
        }
        due("37 mixed, no more", x.redo(), STATE);
    }

    private static void traced(TypewritersKnow x, int... numbers) {
        due("40 how many", x.count(5), numbers.length);
        for (int i = 0; i < numbers.length; i++) {
            due("40 trace " + i, x.trace(i), numbers[i]);
        }
        due("40 behind", x.trace(numbers.length), BAD);
        due("40 ahead", x.trace(-1), BAD);
    }

    private static void p38to40() {
        TypewritersKnow x = fresh();
        due("38 bad", x.body(-1), BAD);
        due("38 bad", x.body(8), BAD);
        for (int i = 0; i < 50; i++) {
            due("38 body", x.body(i % 8), i);
        }
        due("38 full", x.body(0), FULL);
        due("38 full, no kind", x.body(8), BAD);
        due("47 bodies", x.count(4), 50);
        // n 8 to 15 are of KINDS 0 to 7.
        due("39 ghost types", x.act(8, 0, 5), 13);
        traced(x, 1);
        due("39 ghost sticks", x.act(8, 1, 5), 26);
        traced(x, 10, 1);
        due("39 ghost rings", x.act(8, 2, 5), 5 ^ 8);
        traced(x, 11);
        due("39 ghost tells", x.act(8, 3, 5), 26 - (1 ^ 8));
        traced(x, 2, 10, 1, 11);
        due("39 poet types", x.act(9, 0, 5), 17);
        traced(x, 20, 1);
        due("39 poet sticks", x.act(9, 1, 5), 34);
        traced(x, 10, 20, 1);
        due("39 spy sticks", x.act(10, 1, 5), -30);
        traced(x, 30, 10, 1);
        due("39 spy tells", x.act(10, 3, 5), -30 - (1 ^ 10));
        traced(x, 2, 30, 10, 1, 11);
        due("39 novel sticks", x.act(11, 1, 5), -2 * (6 + 11));
        traced(x, 41, 30, 10, 1);
        due("39 novel rings", x.act(11, 2, 5), 3 * (5 ^ 11));
        traced(x, 40, 11);
        due("39 nun rings", x.act(12, 2, 5), (5 ^ 12) - (2 + 12 + 3));
        traced(x, 50, 11, 20, 1);
        due("39 liar tells", x.act(13, 3, 5), (-2 * (6 + 13) - 3 * (1 ^ 13)) ^ 5);
        traced(x, 60, 2, 41, 30, 10, 1, 40, 11);
        due("39 chief types", x.act(14, 0, 5), 38);
        traced(x, 70, 1);
        due("39 chief tells", x.act(14, 3, 5), 76 - (1 ^ 14));
        traced(x, 2, 10, 70, 1, 11);
        int rings1 = (1 ^ 15) - 20;
        int rings2 = (2 ^ 15) - 20;
        due("39 drowned sticks", x.act(15, 1, 5), 46 + rings2);
        traced(x, 80, 10, 20, 1, 50, 11, 20, 1);
        due("39 drowned tells", x.act(15, 3, 5), 46 + rings2 - rings1 - 1);
        traced(x, 81, 2, 80, 10, 20, 1, 50, 11, 20, 1, 50, 11, 20, 1);
        due("39 wraps", x.act(9, 0, MAX), MIN + 11);
        due("39 no ghost", x.act(50, 0, 5), 0);
        traced(x);
        x.act(15, 3, 5);
        due("39 no ghost", x.act(-1, 0, 5), 0);
        traced(x);
        x.act(15, 3, 5);
        due("39 no act", x.act(0, 4, 5), 0);
        traced(x);
        due("39 no act", x.act(0, -1, 5), 0);
    }

    private static void p41and42() {
        TypewritersKnow x = fresh();
        x.body(3);
        due("41 bad", x.keep(-1, 0), BAD);
        due("41 bad", x.keep(6, -1), BAD);
        due("41 bad", x.keep(0, 1), BAD);
        due("41 bad", x.keep(0, -2), BAD);
        due("41 ghost", x.keep(5, 0), 1);
        due("41 held", x.taken(5, 3), 3);
        due("41 nothing", x.keep(5, -1), 1);
        due("41 nothing", x.taken(5, 3), -11);
        due("42 bad", x.row(-1, 0, 1), BAD);
        due("42 bad", x.row(6, 0, 1), BAD);
        due("42 bad", x.row(0, 5, 1), BAD);
        due("42 bad", x.row(0, -1, 1), BAD);
        due("42 bad", x.row(0, 0, 61), BAD);
        due("42 bad ahead", x.row(0, 5, -1), BAD);
        due("42 below", x.row(0, 0, -1), -14);
        due("42 below", x.row(0, 4, MIN), -14);
        due("42 nothing held", x.taken(0, 0), -11);
        due("42 row", x.row(0, 3, 60), 1);
        due("42 0 at first", x.element(0, 59), 0);
        x.put(0, 59, 7);
        due("42 a new row", x.row(0, 3, 60), 1);
        due("42 0 at first", x.element(0, 59), 0);
        x.put(0, 2, 7);
        due("42 refused", x.row(0, 0, -5), -14);
        due("42 refused: as it was", x.element(0, 2), 7);
        due("41 a ghost instead of a row", x.keep(0, 0), 1);
        due("41 a ghost instead of a row", x.element(0, 2), Long.MIN_VALUE);
        due("42 a row instead of a ghost", x.row(0, 0, 0), 1);
        due("42 a row instead of a ghost", x.taken(0, 3), -12);
    }

    private static void p43and44() {
        TypewritersKnow x = fresh();
        long v = 0x123456789ABCDEF0L;
        long[] kept = {(byte) v, (short) v, (int) v, v, 1};
        for (int sort = 0; sort < 5; sort++) {
            x.row(sort, sort, 3);
            due("43 put", x.put(sort, 2, v), 1);
            due("44 lowest bits " + sort, x.element(sort, 2), kept[sort]);
            due("43 put", x.put(sort, 0, -1), 1);
            due("44 below 0", x.element(sort, 0), sort == 4 ? 1 : -1);
            due("44 others", x.element(sort, 1), 0);
            due("43 put", x.put(sort, 2, 0), 1);
            due("44 0", x.element(sort, 2), 0);
            due("43 place", x.put(sort, 3, 1), -13);
            due("43 place", x.put(sort, -1, 1), -13);
            due("44 place", x.element(sort, 3), Long.MIN_VALUE);
            due("44 place", x.element(sort, -1), Long.MIN_VALUE);
        }
        x.put(4, 0, 1L << 40);
        due("44 a boolean is not cut", x.element(4, 0), 1);
        due("43 bad", x.put(6, 0, 1), BAD);
        due("43 bad", x.put(-1, -1, 1), BAD);
        due("43 nothing", x.put(5, -1, 1), -11);
        due("44 bad", x.element(6, 0), Long.MIN_VALUE);
        due("44 nothing", x.element(5, 0), Long.MIN_VALUE);
        x.body(0);
        x.keep(5, 0);
        due("43 ghost", x.put(5, -1, 1), -12);
        due("44 ghost", x.element(5, 0), Long.MIN_VALUE);
    }

    private static void p45() {
        TypewritersKnow x = fresh();
        fill(x, 0, 2, 1, 2, 3, 4, 5);
        fill(x, 1, 2, 9, 9, 9);
        due("45 to another", x.shift(0, 3, 1, 1, 2), 2);
        due("45 came", x.element(1, 0), 9);
        due("45 came", x.element(1, 1), 4);
        due("45 came", x.element(1, 2), 5);
        due("45 the same, up", x.shift(0, 0, 0, 1, 4), 4);
        long[] up = {1, 1, 2, 3, 4};
        for (int i = 0; i < 5; i++) {
            due("45 as they were", x.element(0, i), up[i]);
        }
        due("45 the same, down", x.shift(0, 1, 0, 0, 4), 4);
        long[] down = {1, 2, 3, 4, 4};
        for (int i = 0; i < 5; i++) {
            due("45 as they were", x.element(0, i), down[i]);
        }
        due("45 none", x.shift(0, 5, 1, 3, 0), 0);
        int[][] places = {{-1, 0, 1}, {0, -1, 1}, {0, 0, -1}, {6, 0, 0}, {0, 4, 0}, {3, 0, 3}, {0, 1, 3}, {MAX, 0, 1}, {1, 1, MAX}, {0, 0, MIN}};
        for (int[] a : places) {
            due("45 place", x.shift(0, a[0], 1, a[1], a[2]), -13);
        }
        x.row(2, 3, 5);
        due("45 unlike sorts", x.shift(0, 0, 2, 0, 1), -12);
        due("45 unlike sorts ahead of places", x.shift(0, 9, 2, 0, 1), -12);
        x.body(0);
        x.keep(3, 0);
        due("45 ghost", x.shift(3, 0, 3, 0, 1), -12);
        due("45 ghost", x.shift(0, 0, 3, 0, 1), -12);
        due("45 nothing", x.shift(0, 0, 4, 0, 1), -11);
        due("45 nothing", x.shift(4, 0, 0, 0, 1), -11);
        due("45 nothing ahead of a ghost", x.shift(3, 0, 4, 0, 1), -11);
        due("45 bad", x.shift(-1, 0, 0, 0, 1), BAD);
        due("45 bad", x.shift(4, 0, 6, 0, 1), BAD);
    }

    private static void p46() {
        int[] above = {-1, 0, 0, 2, 1, 3, 0, 4};
        TypewritersKnow x = fresh();
        for (int kind = 0; kind < 8; kind++) {
            x.body(kind);
            x.keep(0, kind);
            for (int k = 0; k < 8; k++) {
                boolean under = false;
                for (int at = kind; at >= 0; at = above[at]) {
                    under |= at == k;
                }
                due("46 " + kind + " for " + k, x.taken(0, k), under ? kind : -12);
            }
        }
        due("46 nothing", x.taken(1, 0), -11);
        x.row(1, 0, 1);
        due("46 row", x.taken(1, 0), -12);
        due("46 bad", x.taken(6, 0), BAD);
        due("46 bad", x.taken(-1, 0), BAD);
        due("46 bad", x.taken(2, 8), BAD);
        due("46 bad", x.taken(2, -1), BAD);
    }

    private static void p47() {
        TypewritersKnow x = fresh();
        x.machine();
        x.machine();
        x.writer(0);
        x.writer(0);
        x.writer(0);
        x.feed(1);
        x.mend(0, 0, 1);
        x.mend(0, 0, 2);
        x.mend(0, 0, 3);
        x.undo();
        x.body(0);
        x.act(0, 3, 0);
        int[] many = {2, 3, 1, 2, 1, 4};
        for (int what = 0; what <= 5; what++) {
            due("47 count " + what, x.count(what), many[what]);
        }
        due("47 bad", x.count(6), BAD);
        due("47 bad", x.count(-1), BAD);
    }

    public static void main(String[] args) {
        p1();
        p2();
        p3();
        p4();
        p5and6();
        p7();
        p8();
        p9();
        p10and11();
        p12();
        p13and14();
        p15();
        p16();
        p17();
        p18to20();
        p21();
        p22to24();
        p25and26();
        p27and28();
        p29();
        p30to33();
        p34and35();
        p36and37();
        p38to40();
        p41and42();
        p43and44();
        p45();
        p46();
        p47();
        System.out.println(checks + " checks, " + wrong + " wrong");
        if (wrong != 0 || checks == 0) {
            System.exit(1);
        }
    }
}
