import java.lang.annotation.ElementType;
import java.lang.annotation.Retention;
import java.lang.annotation.RetentionPolicy;
import java.lang.annotation.Target;
import java.lang.reflect.InvocationTargetException;
import java.lang.reflect.Method;
import java.nio.file.Files;
import java.nio.file.Path;
import java.util.Map;
import java.util.TreeMap;

/**
 * What the tests of edges share. An edge is a static method pNN_name: NN is the promise, and Says has the document's
 * own words, which must stand in that promise or ahead of all promises.
 */
abstract class Edges {
    static final int BAD = -1, NOT = -2, FULL = -3, STATE = -5;
    static final int NOTHING = -11, KIND = -12, PLACE = -13, SIZE = -14;
    static final int MIN = Integer.MIN_VALUE, MAX = Integer.MAX_VALUE;
    static final int BYTES = 0, SHORTS = 1, INTS = 2, LONGS = 3, BOOLEANS = 4;
    /** SHELVES of agency(). */
    static final int DAY = 0, SHEET = 1, BOOK = 2, LONG_ROW = 3, GHOST = 4, EMPTY = 5;

    private static String edge = "";
    private static int checks = 0;
    private static int wrong = 0;

    @Retention(RetentionPolicy.RUNTIME)
    @Target(ElementType.METHOD)
    @interface Says {
        String value();
    }

    interface Call {
        long on(TypewritersKnow x);
    }

    interface Maker {
        TypewritersKnow make();
    }

    // ---- checks

    static void due(String call, long got, long want) {
        checks++;
        if (got != want) {
            wrong++;
            System.out.println(edge + ": " + call + " answered " + got + ", due is " + want);
        }
    }

    /** The call answers so in agency(), and nothing of it is another one behind it. */
    static void still(long want, String call, Call c) {
        still(want, call, Edges::agency, c);
    }

    static void still(long want, String call, Maker maker, Call c) {
        TypewritersKnow x = maker.make();
        due(call, c.on(x), want);
        checks++;
        if (!told(x).equals(told(maker.make()))) {
            wrong++;
            System.out.println(edge + ": " + call + " changed something");
        }
    }

    // ---- agencies

    static int code(int first, int second, int third) {
        return 169 * first + 13 * second + third;
    }

    static void pulls(TypewritersKnow x, int machine, int first, int second, int third) {
        x.mend(machine, 0, first);
        x.mend(machine, 1, second);
        x.mend(machine, 2, third);
    }

    static void fill(TypewritersKnow x, int shelf, int sort, long... cells) {
        x.row(shelf, sort, cells.length);
        for (int i = 0; i < cells.length; i++) {
            x.put(shelf, i, cells[i]);
        }
    }

    static int tell(TypewritersKnow x, String text) {
        for (int i = 0; i < text.length(); i++) {
            x.feed(text.charAt(i));
        }
        return x.law();
    }

    /** MACHINES with PULLS 6, and WRITERS by their HANDS. */
    static TypewritersKnow with(int machines, int... writers) {
        TypewritersKnow x = new TypewritersKnow();
        for (int i = 0; i < machines; i++) {
            x.machine();
        }
        for (int writer : writers) {
            x.writer(writer);
        }
        return x;
    }

    /**
     * Something of all: three MACHINES (6 6 6, AGE 0; 0 12 3, AGE 40; 12 1 7, AGE 99), three WRITERS (0 12 6, TOUCH 6;
     * 12 0 3, TOUCH 0; 6 6 6, TOUCH 12), RIBBON 3, a LAW by which the GRIP is 3, 4, 5 in HABITS 0, 1, 2, two bytes on
     * THE TAPE, 11 changes to be undone, one to be done again, an image, three BODIES and the trace of 14.
     */
    static TypewritersKnow agency() {
        TypewritersKnow x = with(3, code(0, 12, 6), code(12, 0, 3), code(6, 6, 6));
        x.types(0);
        x.clean(0);
        x.learn(20);
        x.image();
        pulls(x, 1, 0, 12, 3);
        x.mend(1, 3, 40);
        pulls(x, 2, 12, 1, 7);
        x.mend(2, 3, 99);
        x.mend(1, 7, 0);
        x.mend(2, 7, 12);
        x.mend(0, 8, 3);
        x.mend(0, 8, 4);
        x.undo();
        tell(x, "r+h");
        x.feed('1');
        x.feed('+');
        x.body(0);
        x.body(4);
        x.body(7);
        x.act(2, 3, 5);
        fill(x, DAY, BYTES, 0, 0, 1, 1, 2, 2);
        fill(x, SHEET, BYTES, 6, 6, 6);
        fill(x, BOOK, SHORTS, 2, 0, code(6, 6, 6));
        fill(x, LONG_ROW, LONGS, 7, -8, 9, 1L << 40);
        x.keep(GHOST, 1);
        return x;
    }

    // ---- all that calls can tell of an object, which is used up by it

    private static String told(TypewritersKnow x) {
        StringBuilder all = new StringBuilder();
        for (int what = 0; what < 6; what++) {
            all.append(x.count(what)).append(' ').append(x.led(what)).append(' ');
        }
        numbers(x, all);
        shelves(x, all);
        for (int i = 0; i <= x.count(5); i++) {
            all.append(x.trace(i)).append(' ');
        }
        grips(x, all);
        all.append(x.feed('7')).append(' ').append(x.law()).append(' ');
        grips(x, all);
        all.append(allOf(x, TypewritersKnow::redo)).append(allOf(x, TypewritersKnow::undo));
        numbers(x, all);
        all.append(allOf(x, TypewritersKnow::redo));
        numbers(x, all);
        all.append(x.back()).append(' ').append(x.led(3)).append(' ').append(x.led(4)).append(' ');
        numbers(x, all);
        return all.toString();
    }

    private static void numbers(TypewritersKnow x, StringBuilder all) {
        for (int machine = 0; machine < x.count(0); machine++) {
            for (int what = 0; what < 4; what++) {
                all.append(x.of(machine, what)).append(' ');
            }
        }
        for (int writer = 0; writer < x.count(1); writer++) {
            for (int what = 4; what < 8; what++) {
                all.append(x.of(writer, what)).append(' ');
            }
        }
        all.append(x.of(0, 8)).append(' ');
    }

    private static void shelves(TypewritersKnow x, StringBuilder all) {
        for (int shelf = 0; shelf < 6; shelf++) {
            all.append(x.taken(shelf, 0)).append(' ').append(x.judge(shelf)).append(' ').append(x.still(shelf)).append(' ');
            for (int i = 0; i < 60 && x.element(shelf, i) != Long.MIN_VALUE; i++) {
                all.append(x.element(shelf, i)).append(' ');
            }
        }
    }

    private static void grips(TypewritersKnow x, StringBuilder all) {
        for (int habit = 0; habit < 3; habit++) {
            all.append(x.shows(0, habit, 1)).append(' ');
        }
    }

    private static String allOf(TypewritersKnow x, Call c) {
        StringBuilder all = new StringBuilder();
        long answer = 0;
        for (int i = 0; i < 50 && answer >= 0; i++) {
            answer = c.on(x);
            all.append(answer).append(' ');
        }
        return all.toString();
    }

    // ---- the run

    /** Runs all edges of a test, and looks that each promise from .. to has one. */
    static void run(Class<?> test, int from, int to) throws Exception {
        Map<String, Method> edges = new TreeMap<>();
        int[] many = new int[48];
        for (Method m : test.getDeclaredMethods()) {
            if (m.isAnnotationPresent(Says.class)) {
                edges.put(m.getName(), m);
            } else if (m.getName().matches("p\\d\\d_.*")) {
                due(m.getName() + " has no Says", 1, 0);
            }
        }
        String doc = document();
        for (Method m : edges.values()) {
            edge = m.getName();
            int promise = Integer.parseInt(edge.substring(1, 3));
            many[promise]++;
            if (!standsIn(doc, promise, m.getAnnotation(Says.class).value())) {
                due("the document has no words \"" + m.getAnnotation(Says.class).value() + "\" there", 1, 0);
            }
            runOne(m);
        }
        edge = test.getName();
        for (int promise = from; promise <= to; promise++) {
            due("edges of promise " + promise + " > 0", many[promise] > 0 ? 1 : 0, 1);
        }
        System.out.println(edges.size() + " edges, " + checks + " checks, " + wrong + " wrong");
        if (wrong != 0) {
            System.exit(1);
        }
    }

    private static void runOne(Method m) throws IllegalAccessException {
        int before = checks;
        m.setAccessible(true);
        try {
            m.invoke(null);
        } catch (InvocationTargetException e) {
            due("threw " + e.getCause(), 1, 0);
        }
        due("checks > 0", checks > before ? 1 : 0, 1);
    }

    private static String document() throws Exception {
        Path path = Path.of(System.getProperty("shared", "../shared"), "DOC.md");
        return Files.exists(path) ? bare(Files.readString(path)) : "";
    }

    private static String bare(String text) {
        return text.replaceAll("\\s+", " ");
    }

    /** Ahead of all promises, or in its own; without a document nothing can be said against it. */
    private static boolean standsIn(String doc, int promise, String words) {
        int first = doc.indexOf("## Promise 1:");
        int own = doc.indexOf("## Promise " + promise + ":");
        if (first < 0 || own < 0) {
            return doc.isEmpty();
        }
        int end = doc.indexOf("## ", own + 3);
        return doc.substring(0, first).contains(bare(words)) || doc.substring(own, end).contains(bare(words));
    }
}
