/** The edges of promise 8: THE LAW and what it gives. */
public final class EdgesOfLawTest extends Edges {

    /** GRIP of a WRITER with HANDS 2, 9, 6 on a MACHINE 0 or 1 with PULLS 6 and AGE 7, by a text. */
    private static int grip(String text, int machine, int habit) {
        TypewritersKnow x = with(2, code(2, 9, 6));
        x.mend(0, 3, 7);
        x.mend(1, 3, 7);
        due("law " + text, tell(x, text), 1);
        return x.shows(machine, habit, 1);
    }

    private static void gives(String text, int want) {
        due("grip by " + text, grip(text, 0, 0), want);
    }

    private static void fault(String text, int place) {
        TypewritersKnow x = with(1, 0);
        due("law " + text, tell(x, text), -100 - place);
        due("bytes behind " + text, x.count(2), 0);
    }

    // ---- the tape

    @Says("THE TAPE is empty then.")
    static void p08_theTapeIsEmptyBehindALaw() {
        TypewritersKnow x = new TypewritersKnow();
        due("law()", tell(x, "12"), 1);
        due("count(2)", x.count(2), 0);
        due("law() again", x.law(), -100);
        due("feed", x.feed('1'), 1);
    }

    @Says("THE TAPE is empty then.")
    static void p08_theTapeIsEmptyBehindAFault() {
        TypewritersKnow x = new TypewritersKnow();
        due("law()", tell(x, "12)"), -102);
        due("count(2)", x.count(2), 0);
        due("feed", x.feed('1'), 1);
        due("law() of the one", x.law(), 1);
    }

    @Says("THE LAW is a TEXT by THE TAPE (at most 120 bytes)")
    static void p08_aLawOf120Bytes() {
        String most = "0+".repeat(59) + "07";
        due("bytes", most.length(), 120);
        gives(most, 7);
        gives("1?" + "0+".repeat(58) + "08", 8);
        gives("0?1;".repeat(29) + "9999", 12);
        gives("0?9;".repeat(29) + "0?11", 0);
        gives("-1+".repeat(39) + "045", 6);
        gives("0|".repeat(59) + "00", 0);
        gives("!0" + "+0".repeat(58) + "+5", 6);
        gives("1*".repeat(59) + "09", 9);
        gives("1&".repeat(59) + "1", 1);
    }

    // ---- what a text is

    @Says("LINES, one or more, parted by ;")
    static void p08_linesAreOneOrMore() {
        gives("5", 5);
        gives("0?5;6", 6);
        fault("", 0);
        fault(";", 0);
        fault(";5", 0);
        fault("5;", 2);
        fault("5;;6", 2);
        fault("0?5;", 4);
    }

    @Says("LINE: E, or E ? E")
    static void p08_oneQuestionALineAtMost() {
        gives("1?2;3?4", 2);
        fault("?1", 0);
        fault("1?", 2);
        fault("1??2", 2);
        fault("1?2?3", 3);
        fault("1?;2", 2);
        fault("(1?2)", 2);
        fault("0?1;2?3?4", 7);
    }

    @Says("B = S, or S < S, S = S, S > S.")
    static void p08_oneComparisonAtMost() {
        gives("1<2", 1);
        gives("(1<2)<3", 1);
        gives("1<2&2<3|0", 1);
        fault("1<2<3", 3);
        fault("1=1=1", 3);
        fault("3>2>1", 3);
        fault("1<2=1", 3);
        fault("1<=2", 2);
        fault("<2", 0);
    }

    @Says("a number (1 to 4 digits)")
    static void p08_aNumberHas1To4Digits() {
        gives("0", 0);
        gives("9", 9);
        gives("0011", 11);
        gives("9999=9998+1", 1);
        fault("12345", 4);
        fault("00000", 4);
        fault("1+00001", 6);
        fault("(12345)", 5);
        fault("-12345", 5);
    }

    @Says("NAMES: a AGE, t TOUCH, h the HABIT (0 .. 2)")
    static void p08_noOtherNames() {
        fault("b", 0);
        fault("A", 0);
        fault("1+x", 2);
        fault("aa", 1);
        fault("a1", 1);
        fault("1a", 1);
        String names = "athdrm";
        for (int letter = 0; letter < 256; letter++) {
            boolean begins = letter >= '0' && letter <= '9' || names.indexOf(letter) >= 0;
            boolean opens = letter == '(' || letter == '!' || letter == '-';
            TypewritersKnow x = new TypewritersKnow();
            x.feed(letter);
            due("law of byte " + letter, x.law(), begins ? 1 : opens ? -101 : -100);
        }
    }

    @Says("No blanks.")
    static void p08_noBlanks() {
        fault(" 1", 0);
        fault("1 ", 1);
        fault("1 +2", 1);
        fault("1+ 2", 2);
        fault("1;\n2", 2);
        fault("\t", 0);
    }

    @Says("E = A { | A }. A = B { & B }.")
    static void p08_signsStandBetweenTwo() {
        String signs = "|&<=>+*/%";
        for (int i = 0; i < signs.length(); i++) {
            fault(signs.charAt(i) + "1", 0);
            fault("1" + signs.charAt(i), 2);
            fault("1" + signs.charAt(i) + "*", 2);
            fault("1" + signs.charAt(i) + ")", 2);
        }
        fault("1!2", 1);
        fault("1(2)", 1);
        fault("(1)2", 3);
        fault("1)", 1);
        fault(")", 0);
        fault("()", 1);
        fault("(1;2)", 2);
    }

    @Says("At most 6 of ( ! - ahead of an O are open at once.")
    static void p08_sixAreOpenAtMost() {
        gives("((((((7))))))", 7);
        gives("!!!!!!7", 1);
        gives("------7", 7);
        gives("(-(-(-7)))+14", 7);
        gives("!(!(!(7)))", 0);
        fault("(((((((7)))))))", 6);
        fault("!!!!!!!7", 6);
        fault("-------7", 6);
        fault("(-(-(-(7))))", 6);
        fault("((((((!7))))))", 6);
        fault("((((((-7))))))", 6);
        fault("!!!!!!(7)", 6);
    }

    @Says("At most 6 of ( ! - ahead of an O are open at once.")
    static void p08_aMinusBetweenTwoIsNotOpen() {
        gives("1-(-(-(-5)))", 6);
        gives("((((((9-1-1))))))", 7);
        fault("1-(-(-(-(5))))", 8);
        fault("((((((9-1--1))))))", 10);
    }

    @Says("At most 6 of ( ! - ahead of an O are open at once.")
    static void p08_whatIsClosedCountsNoMore() {
        gives("((((((1))))))+((((((2))))))", 3);
        gives("------1+------2", 3);
        gives("(((((-1+-2+9)))))", 6);
        gives("(!0+((((1)))))*3", 6);
        gives("0?((((((1))))));((((((4))))))", 4);
        fault("((((((1))))))+(((((((2)))))))", 20);
    }

    @Says("E = A { | A }. A = B { & B }. B = S, or S < S, S = S, S > S. S = P { + P, - P }. P = O { * O, / O, % O }.")
    static void p08_whatBindsMore() {
        gives("1|1&0", 1);
        gives("0&0|1", 1);
        gives("0&0<1", 0);
        gives("2&1=1", 1);
        gives("1<1+1", 1);
        gives("9-2*3", 3);
        gives("9-4-3", 2);
        gives("8/4/2", 1);
        gives("9%5*2", 8);
        gives("2*9%5", 3);
        gives("-2+5", 3);
        gives("!0+5", 6);
        gives("!1<1", 1);
    }

    // ---- faults

    @Says("FAULT: the place (from 0) of the first byte with which no TEXT goes on")
    static void p08_theFirstFaultCounts() {
        fault("x", 0);
        fault("1x", 1);
        fault("1+*x", 2);
        fault("a b c", 1);
        fault("0+".repeat(59) + "0x", 119);
        TypewritersKnow x = new TypewritersKnow();
        x.feed('1');
        x.feed(0);
        due("byte 0", x.law(), -101);
        x.feed('1');
        x.feed(255);
        due("byte 255", x.law(), -101);
        x.feed('1');
        x.feed('+' + 128);
        due("a sign and 128", x.law(), -101);
    }

    @Says("the length, if it ends too early")
    static void p08_theLengthIfItEndsTooEarly() {
        fault("", 0);
        fault("(", 1);
        fault("!", 1);
        fault("-", 1);
        fault("1+", 2);
        fault("(1", 2);
        fault("(1+(2)", 6);
        fault("1;", 2);
        fault("1?", 2);
        fault("1<", 2);
        fault("((((((", 6);
        fault("0+".repeat(60), 120);
        fault("0+".repeat(59) + "(1", 120);
    }

    @Says("THE TAPE becomes THE LAW: 1; -100 less its FAULT")
    static void p08_aFaultIsNoLaw() {
        TypewritersKnow x = with(1, code(0, 0, 0));
        due("law()", tell(x, "3)"), -101);
        due("grip without a text", x.shows(0, 0, 1), 4);
        due("law()", tell(x, "11"), 1);
        due("law()", tell(x, "3)"), -101);
        due("law()", tell(x, ""), -100);
        due("grip by the law ahead", x.shows(0, 0, 1), 11);
        due("law()", tell(x, "3"), 1);
        due("grip by the latest law", x.shows(0, 0, 1), 3);
    }

    // ---- what it gives

    @Says("Ints that wrap")
    static void p08_intsWrap() {
        gives("9999*9999*9999<0", 1);
        gives("2147*1000*1000+483*1000+647>0", 1);
        gives("2147*1000*1000+483*1000+647+1<0", 1);
        gives("-2147*1000*1000-483*1000-648<0", 1);
        gives("-2147*1000*1000-483*1000-648-1>0", 1);
        gives("-(-2147*1000*1000-483*1000-648)<0", 1);
        gives("(2147*1000*1000+483*1000+648)/-1<0", 1);
        gives("(2147*1000*1000+483*1000+648)%-1=0", 1);
        gives("4096*4096*256+5", 5);
    }

    @Says("/ and % toward 0")
    static void p08_towards0() {
        gives("10+-7/2", 7);
        gives("10+7/-2", 7);
        gives("5+-7%3", 4);
        gives("5+7%-3", 6);
        gives("5+-7%-3", 4);
        gives("7/8", 0);
        gives("3+-7/8", 3);
    }

    @Says("by 0 they give 0")
    static void p08_by0TheyGive0() {
        gives("3+5/0", 3);
        gives("3+5%0", 3);
        gives("3+-5/0", 3);
        gives("3+-5%0", 3);
        gives("0/0", 0);
        gives("0%0", 0);
        gives("4+5/(6-6)", 4);
        gives("4+5%h", 4);
    }

    @Says("| & < = > ! give 1, 0")
    static void p08_signsGive1Or0() {
        gives("7|0", 1);
        gives("0|7", 1);
        gives("-1|0", 1);
        gives("0|0", 0);
        gives("7&9", 1);
        gives("-1&2", 1);
        gives("7&0", 0);
        gives("0&7", 0);
        gives("3<4", 1);
        gives("4<4", 0);
        gives("5<4", 0);
        gives("4=4", 1);
        gives("3=4", 0);
        gives("5>4", 1);
        gives("4>4", 0);
        gives("3>4", 0);
        gives("-1<0", 1);
        gives("!0", 1);
        gives("!7", 0);
        gives("!-1", 0);
    }

    @Says("all is worked out")
    static void p08_allIsWorkedOut() {
        gives("1|7/0", 1);
        gives("0&7/0", 0);
        gives("7/0|0", 0);
        gives("7%0&1", 0);
    }

    @Says("The first LINE without a first E, or whose first E is not 0, counts")
    static void p08_theFirstLineThatCounts() {
        gives("0?5;7", 7);
        gives("1?5;7", 5);
        gives("-1?5;7", 5);
        gives("0?5;0?6;9", 9);
        gives("0;7", 0);
        gives("3;7", 3);
        gives("1?0;7", 0);
        due("by the machine", grip("m?4;5", 0, 0), 5);
        due("by the machine", grip("m?4;5", 1, 0), 4);
    }

    @Says("none: 0.")
    static void p08_noLineCounts() {
        gives("0?5", 0);
        gives("0?5;0?6", 0);
        gives("3<3?5;4%2?6", 0);
    }

    @Says("It gives the GRIP (held within 0 .. 12).")
    static void p08_theGripIsHeldWithin0To12() {
        gives("-1", 0);
        gives("0", 0);
        gives("1", 1);
        gives("11", 11);
        gives("12", 12);
        gives("13", 12);
        gives("9999", 12);
        gives("0-9999", 0);
        gives("2147*1000*1000+483*1000+647", 12);
        gives("2147*1000*1000+483*1000+648", 0);
    }

    @Says("d HAND and PULL apart (without sign)")
    static void p08_apartWithoutSign() {
        due("hand 2, pull 6", grip("d", 0, 0), 4);
        due("hand 9, pull 6", grip("d", 0, 1), 3);
        due("hand 6, pull 6", grip("d", 0, 2), 0);
        TypewritersKnow x = with(1, code(0, 12, 12));
        pulls(x, 0, 12, 0, 12);
        tell(x, "d");
        due("hand 0, pull 12", x.shows(0, 0, 1), 12);
        due("hand 12, pull 0", x.shows(0, 1, 1), 12);
        due("hand 12, pull 12", x.shows(0, 2, 1), 0);
    }

    @Says("NAMES: a AGE, t TOUCH, h the HABIT (0 .. 2), d HAND and PULL apart (without sign), r RIBBON, m the MACHINE.")
    static void p08_namesAtTheirEnds() {
        TypewritersKnow x = with(8, 0, 0, 0, 0, 0, 0, 0, 0);
        x.mend(7, 3, 99);
        x.mend(7, 7, 12);
        x.mend(6, 7, 0);
        x.mend(0, 8, 9);
        tell(x, "a-90");
        due("age 99", x.shows(77, 0, 1), 9);
        due("age 0", x.shows(70, 0, 1), 0);
        tell(x, "t");
        due("touch 12", x.shows(77, 0, 1), 12);
        due("touch 0", x.shows(67, 0, 1), 0);
        tell(x, "r");
        due("ribbon 9", x.shows(0, 0, 1), 9);
        x.mend(0, 8, 0);
        due("ribbon 0", x.shows(0, 0, 1), 0);
        tell(x, "m");
        due("machine 7", x.shows(7, 0, 1), 7);
        due("machine 0", x.shows(70, 0, 1), 0);
        tell(x, "h");
        due("habit 0", x.shows(0, 0, 1), 0);
        due("habit 2", x.shows(0, 2, 1), 2);
    }

    @Says("Without a text: 6, and a by 10, less t by 3 (each cut).")
    static void p08_withoutAText() {
        int[][] rows = {{0, 6, 4}, {0, 0, 6}, {0, 2, 6}, {0, 3, 5}, {0, 11, 3}, {0, 12, 2}, {9, 6, 4}, {10, 6, 5}, {19, 6, 5},
            {20, 6, 6}, {99, 6, 12}, {99, 12, 11}, {99, 8, 12}, {99, 9, 12}, {60, 0, 12}, {69, 2, 12}, {59, 2, 11}, {70, 0, 12},
            {29, 5, 7}, {99, 0, 12}};
        for (int[] row : rows) {
            TypewritersKnow x = with(1, 0);
            x.mend(0, 3, row[0]);
            x.mend(0, 7, row[1]);
            due("age " + row[0] + ", touch " + row[1], x.shows(0, 0, 1), row[2]);
        }
    }

    public static void main(String[] args) throws Exception {
        run(EdgesOfLawTest.class, 8, 8);
    }
}
