import java.lang.reflect.InvocationTargetException;
import java.lang.reflect.Method;
import java.util.ArrayDeque;
import java.util.Arrays;
import java.util.HashMap;
import java.util.Map;
import java.util.Random;
import java.util.TreeMap;

/** All promises: runs of 512 calls of every sort, whose answers are those of Plain, the document written once more. */
public final class TwinTest {
    private static final int RUNS = 400, CALLS = 512;
    private static final int[] EDGES = {Integer.MIN_VALUE, Integer.MAX_VALUE, -1, -2, 7, 8, 9, 12, 13, 30, 31, 60, 61, 99, 100,
        2196, 2197, 1 << 30, Integer.MAX_VALUE - 1, 715827882};
    /** For each call how often it is made, and a letter for each of its arguments (see argument()). */
    private static final String[] FACE = {
        "machine 3", "machines 3 spn", "writer 5 c", "mend 30 mwv", "of 6 mw", "feed 2 f", "law 2", "shows 15 ohi", "later 8 snmq",
        "letter 8 sk", "still 5 s", "far 6 o", "nearest 6 mi", "given 4 m", "teach 8 ot", "bring 1 mck", "whose 6 sm", "where 6 sm",
        "pairs 6 si", "between 6 som", "judge 5 s", "falseOne 6 sk", "ribbons 6 si", "morning 8 mnh", "alike 6", "price 6 m",
        "buy 6 $i", "drawn 6 *dm", "types 20 o", "clean 2 m", "learn 10 o", "led 6 q", "image 2", "back 2", "undo 15", "redo 10",
        "body 6 k", "act 10 mq*", "trace 6 k", "keep 2 sm", "row 2 srn", "put 8 sp#", "element 6 sp", "shift 6 spspp", "taken 6 sk",
        "count 4 q"};

    private static int wrong = 0;
    private static final Map<String, Method[]> METHODS = new HashMap<>();
    private static final Map<String, Map<String, Integer>> ANSWERS = new TreeMap<>();

    private final Random random;
    private final TypewritersKnow x = new TypewritersKnow();
    private final Plain plain = new Plain();
    private final StringBuilder calls = new StringBuilder();
    /** Calls that belong together wait here: a name, and its arguments. */
    private final ArrayDeque<Object[]> waiting = new ArrayDeque<>();
    /** HANDS of a small span are often alike. */
    private final int span;
    private int made = 0;

    private TwinTest(long seed) {
        random = new Random(seed);
        span = random.nextInt(3) == 0 ? 3 : 13;
    }

    // ---- arguments

    private long argument(char sort) {
        if (random.nextInt(40) == 0) {
            return EDGES[random.nextInt(EDGES.length)];
        }
        switch (sort) {
            case 's': return random.nextInt(random.nextInt(20) == 0 ? 7 : 6);
            case 'm': return random.nextInt(4) == 0 ? random.nextInt(10) - 1 : random.nextInt(Math.max(1, plain.count(0)));
            case 'o': return 10 * random.nextInt(Math.max(1, plain.count(1))) + random.nextInt(Math.max(1, plain.count(0)));
            case 'c': return hands();
            case 'h': return random.nextInt(3);
            case 'i': return random.nextInt(random.nextInt(10) == 0 ? 3 : 2);
            case 'k': return random.nextInt(9) - 1;
            case 'n': return random.nextInt(random.nextBoolean() ? 9 : 32);
            case 'p': return random.nextInt(random.nextBoolean() ? 7 : 62) - 1;
            case 'q': return random.nextInt(random.nextInt(4) == 0 ? 7 : 4);
            case 'r': return random.nextInt(6);
            case 't': return 100 * random.nextInt(random.nextInt(9) == 0 ? 4 : 3) + random.nextInt(14);
            case 'v': return random.nextInt(4) == 0 ? random.nextInt(102) - 1 : random.nextInt(4) == 0 ? 99 : random.nextInt(13);
            case 'w': return random.nextInt(9);
            case 'f': return random.nextInt(258) - 1;
            case 'd': return 100 * random.nextInt(32) + random.nextInt(32);
            case '$': return random.nextInt(1000);
            case '#': return random.nextBoolean() ? random.nextLong() : random.nextInt(400) - 200;
            default: return random.nextInt();
        }
    }

    private int hands() {
        return 169 * random.nextInt(span) + 13 * random.nextInt(span) + random.nextInt(span);
    }

    // ---- calls that belong together

    private void later(String name, Object... arguments) {
        Object[] all = new Object[arguments.length + 1];
        all[0] = name;
        System.arraycopy(arguments, 0, all, 1, arguments.length);
        waiting.add(all);
    }

    private void cells(int shelf, int sort, long... cells) {
        later("row", shelf, sort, cells.length);
        for (int i = 0; i < cells.length; i++) {
            later("put", shelf, i, cells[i]);
        }
    }

    private void ask(int shelf, String... names) {
        for (String name : names) {
            for (int i = 0; i < 3; i++) {
                Object[] arguments = arguments(name);
                arguments[0] = shelf;
                later(name, arguments);
            }
        }
    }

    private void tellLaw() {
        String signs = "athdrm0123456789|&<=>+-*/%!()?;";
        if (random.nextInt(12) == 0) {
            tellLongText();
            return;
        }
        StringBuilder text = new StringBuilder(grownLine());
        while (random.nextInt(3) == 0) {
            text.append(';').append(grownLine());
        }
        if (random.nextInt(4) == 0) {
            text.insert(random.nextInt(text.length() + 1), signs.charAt(random.nextInt(signs.length())));
        }
        for (int i = 0; i < text.length() && i < 100; i++) {
            later("feed", text.charAt(i));
        }
        later("law");
        for (int i = 0; i < 6; i++) {
            later("shows", arguments("shows"));
        }
    }

    private String grownLine() {
        return random.nextBoolean() ? grown(0) : grown(0) + "?" + grown(0);
    }

    /** Some are one sign too deep, or have five digits. */
    private String grown(int open) {
        int sort = random.nextInt(12);
        if (sort < 4) {
            return grown(open) + "|&+-*/%|&+-*/%<=>".charAt(random.nextInt(17)) + grown(open);
        }
        if (sort < 6 && open < 8) {
            return (random.nextBoolean() ? "!" : "-") + grown(open + 1);
        }
        if (sort == 6 && open < 8) {
            return "(" + grown(open + 1) + ")";
        }
        if (sort == 7 && random.nextInt(4) == 0) {
            return random.nextBoolean() ? "((((((" + grown(6) + "))))))" : "!-!-!" + grown(5);
        }
        return sort < 10 ? String.valueOf("athdrm".charAt(random.nextInt(6)))
            : String.valueOf(random.nextInt(random.nextInt(6) == 0 ? 12000 : 14));
    }

    /** Often more than are kept, then as many of them undone as may be. */
    private void tellChanges() {
        int many = random.nextInt(90);
        for (int i = 0; i < many; i++) {
            int what = random.nextInt(9);
            int ones = what == 8 ? 1 : plain.count(what < 4 ? 0 : 1);
            later("mend", random.nextInt(Math.max(1, ones)), what, random.nextInt(what == 3 ? 100 : what == 8 ? 10 : 13));
        }
        for (int i = random.nextInt(45); i > 0; i--) {
            later("undo");
            later("of", arguments("of"));
        }
        for (int i = random.nextInt(9); i > 0; i--) {
            later("redo");
            later("of", arguments("of"));
        }
    }

    private void tellMachines() {
        long[] pulls = new long[random.nextInt(28)];
        for (int i = 0; i < pulls.length; i++) {
            pulls[i] = random.nextInt(40) == 0 ? random.nextInt(256) : random.nextInt(13);
        }
        int shelf = random.nextInt(6);
        cells(shelf, 0, pulls);
        later("machines", shelf, random.nextInt(4), 1 + random.nextInt(8));
        for (int machine = 0; machine < 8; machine++) {
            later("of", machine, random.nextInt(3));
        }
    }

    private void tellDay() {
        long[] day = new long[random.nextInt(random.nextInt(6) == 0 ? 61 : 13)];
        for (int i = 0; i < day.length; i++) {
            int many = Math.max(1, plain.count(i % 2 == 0 ? 1 : 0));
            day[i] = random.nextInt(12) == 0 ? random.nextInt(256) : random.nextInt(many);
        }
        int shelf = random.nextInt(6);
        cells(shelf, 0, day);
        ask(shelf, "later", "letter", "still");
        run();
        int machine = (int) argument('m');
        int code = 0;
        for (int h = 0; h < 3; h++) {
            code = 13 * code + Math.max(0, plain.later(shelf, 30, machine, h));
        }
        for (int k = -1; k < 3; k++) {
            later("bring", machine, code, k);
        }
    }

    private void tellRows() {
        int sort = random.nextInt(5);
        int from = random.nextInt(6);
        int to = random.nextInt(6);
        for (int shelf : new int[] {from, to}) {
            long[] row = new long[random.nextInt(9)];
            for (int i = 0; i < row.length; i++) {
                row[i] = argument('#');
            }
            cells(shelf, random.nextInt(9) == 0 ? random.nextInt(5) : sort, row);
        }
        for (int i = 0; i < 3; i++) {
            later("shift", from, random.nextInt(6) - 1, to, random.nextInt(6) - 1, random.nextInt(7) - 1);
        }
        for (int i = 0; i < 9; i++) {
            later("element", to, i);
        }
        later("machines", to, random.nextInt(3), 1 + random.nextInt(3));
    }

    private void tellGhosts() {
        int bodies = random.nextInt(12) == 0 ? 52 : 3;
        for (int i = 0; i < bodies; i++) {
            later("body", random.nextInt(8));
        }
        run();
        for (int i = 0; i < 3; i++) {
            int body = random.nextInt(Math.max(1, plain.count(4)));
            later("act", body, random.nextInt(4), random.nextInt());
            later("count", 5);
            for (int k = 0; k < 15; k++) {
                later("trace", k);
            }
            int shelf = random.nextInt(6);
            later("keep", shelf, body);
            for (int k = 0; k < 8; k++) {
                later("taken", shelf, k);
            }
        }
    }

    private void tellLongText() {
        for (int i = 0; i < 122; i++) {
            later("feed", i % 2 == 0 ? "athdrm123".charAt(random.nextInt(9)) : "|&+-*/%;".charAt(random.nextInt(8)));
            if (i == 118 + random.nextInt(9)) {
                later("law");
            }
        }
        later("law");
    }

    /** Most are what a WRITER would type in some nearby state. */
    private void tellSheet() {
        long[] sheet = new long[random.nextInt(5)];
        int wm = (int) argument('o');
        for (int h = 0; h < sheet.length; h++) {
            sheet[h] = h > 2 || random.nextInt(6) == 0 ? random.nextInt(13) : Math.max(0, plain.shows(wm, h, 0));
        }
        int shelf = random.nextInt(6);
        cells(shelf, 0, sheet);
        ask(shelf, "whose", "where", "pairs", "between");
    }

    /** The LETTERS of a DAY that Plain tells, now and then with one that is not so. */
    private void tellBook() {
        int letters = random.nextInt(5);
        int shelf = random.nextInt(6);
        long[] day = new long[2 * letters];
        for (int i = 0; i < day.length; i++) {
            day[i] = random.nextInt(Math.max(1, plain.count(i % 2 == 0 ? 1 : 0)));
        }
        cells(shelf, 0, day);
        run();
        long[] book = new long[3 * letters + (random.nextInt(5) == 0 ? 1 : 0)];
        for (int k = 0; k < letters; k++) {
            book[3 * k] = day[2 * k];
            book[3 * k + 1] = day[2 * k + 1];
            book[3 * k + 2] = plain.letter(shelf, k);
        }
        if (letters > 0 && random.nextInt(3) == 0) {
            int k = random.nextInt(letters);
            book[3 * k + random.nextInt(3)] += random.nextInt(3) - 1;
        }
        cells(shelf, 1, book);
        ask(shelf, "judge", "falseOne", "ribbons");
    }

    // ---- the run

    private Object[] arguments(String name) {
        for (String one : FACE) {
            String[] parts = one.split(" ");
            if (parts[0].equals(name)) {
                Object[] all = new Object[parts.length < 3 ? 0 : parts[2].length()];
                for (int i = 0; i < all.length; i++) {
                    long v = argument(parts[2].charAt(i));
                    all[i] = name.equals("put") && i == 2 ? (Object) v : (Object) (int) v;
                }
                return all;
            }
        }
        throw new IllegalStateException(name);
    }

    private String anyName() {
        int all = Arrays.stream(FACE).mapToInt(one -> Integer.parseInt(one.split(" ")[1])).sum();
        int left = random.nextInt(all);
        for (String one : FACE) {
            left -= Integer.parseInt(one.split(" ")[1]);
            if (left < 0) {
                return one.split(" ")[0];
            }
        }
        throw new IllegalStateException();
    }

    private void call(String name, Object[] arguments) {
        Method[] both = METHODS.get(name);
        made++;
        calls.append(name).append(Arrays.toString(arguments));
        long got = answer(both[0], x, arguments);
        long want = answer(both[1], plain, arguments);
        calls.append(" = ").append(want).append('\n');
        ANSWERS.computeIfAbsent(name, n -> new TreeMap<>()).merge(sortOf(want), 1, Integer::sum);
        if (got != want) {
            wrong++;
            System.out.println(calls + "the last of these answered " + got);
            throw new IllegalStateException("wrong");
        }
    }

    private static String sortOf(long answer) {
        return answer == Long.MIN_VALUE ? "refused" : answer >= 0 ? "told" : answer < -99 ? "fault" : String.valueOf(answer);
    }

    private long answer(Method m, Object on, Object[] arguments) {
        try {
            return ((Number) m.invoke(on, arguments)).longValue();
        } catch (InvocationTargetException e) {
            wrong++;
            e.getCause().printStackTrace(System.out);
            throw new IllegalStateException(calls.toString());
        } catch (IllegalAccessException e) {
            throw new IllegalStateException(e);
        }
    }

    private void run() {
        while (!waiting.isEmpty() && made < CALLS) {
            Object[] next = waiting.poll();
            for (int i = 1; i < next.length; i++) {
                next[i] = next[0].equals("put") && i == 3 ? (Object) number(next[i]) : (Object) (int) number(next[i]);
            }
            call((String) next[0], Arrays.copyOfRange(next, 1, next.length));
        }
        waiting.clear();
    }

    private static long number(Object told) {
        return told instanceof Character ? (Character) told : ((Number) told).longValue();
    }

    private void runAll() {
        if (random.nextInt(3) == 0) {
            tellMachines();
        }
        int begin = random.nextInt(9);
        for (int i = 0; i < begin; i++) {
            if (random.nextBoolean()) {
                later("machine");
            }
            if (random.nextInt(4) > 0) {
                later("writer", hands());
            }
        }
        while (made < CALLS) {
            run();
            int sort = random.nextInt(40);
            if (sort == 0) {
                tellLaw();
            } else if (sort == 1) {
                tellDay();
            } else if (sort == 2) {
                tellSheet();
            } else if (sort == 3) {
                tellBook();
            } else if (sort == 4) {
                tellRows();
            } else if (sort == 5 && random.nextInt(3) == 0) {
                tellGhosts();
            } else if (sort == 6 && random.nextInt(4) == 0) {
                tellChanges();
            } else {
                String name = anyName();
                call(name, arguments(name));
            }
        }
    }

    private static void findMethods() {
        for (Method m : TypewritersKnow.class.getDeclaredMethods()) {
            if (java.lang.reflect.Modifier.isPublic(m.getModifiers())) {
                try {
                    METHODS.put(m.getName(), new Method[] {m, Plain.class.getDeclaredMethod(m.getName(), m.getParameterTypes())});
                } catch (NoSuchMethodException e) {
                    throw new IllegalStateException(e);
                }
            }
        }
        if (METHODS.size() != FACE.length) {
            throw new IllegalStateException("the face has " + METHODS.size() + " methods");
        }
    }

    public static void main(String[] args) {
        findMethods();
        int runs = args.length > 0 ? Integer.parseInt(args[0]) : RUNS;
        int first = args.length > 1 ? Integer.parseInt(args[1]) : 0;
        for (int seed = first; seed < first + runs && wrong < 3; seed++) {
            try {
                new TwinTest(seed).runAll();
            } catch (IllegalStateException e) {
                System.out.println("run " + seed + ": " + e.getMessage());
                wrong += wrong == 0 ? 1 : 0;
            }
        }
        if (args.length > 0) {
            ANSWERS.forEach((name, sorts) -> System.out.println(name + " " + sorts));
        }
        System.out.println(runs + " runs of " + CALLS + " calls, " + wrong + " wrong");
        if (wrong != 0) {
            System.exit(1);
        }
    }
}
