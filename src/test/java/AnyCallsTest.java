import java.lang.reflect.Method;
import java.util.ArrayList;
import java.util.Comparator;
import java.util.List;
import java.util.Random;

/** Any calls in any state: none throws, calls in thought and refused ones change nothing, the same calls answer the same. */
public final class AnyCallsTest {
    private static final List<String> DEEDS = List.of("machine", "machines", "writer", "mend", "feed", "law", "types", "clean",
        "learn", "image", "back", "undo", "redo", "body", "act", "keep", "row", "put", "shift");
    private static final int[] EDGES = {Integer.MIN_VALUE, Integer.MAX_VALUE, -1, -2, 60, 61, 8, 9, 99, 100, 2196, 2197, 255, 256,
        1 << 30, 77, 3030, 101};
    private static int wrong = 0;

    private static Method[] face() {
        List<Method> all = new ArrayList<>();
        for (Method m : TypewritersKnow.class.getDeclaredMethods()) {
            if ((m.getModifiers() & java.lang.reflect.Modifier.PUBLIC) != 0) {
                all.add(m);
            }
        }
        // The machine gives them in no told order.
        all.sort(Comparator.comparing(Method::getName));
        return all.toArray(new Method[0]);
    }

    private static Object[] arguments(Method m, Random random) {
        Class<?>[] types = m.getParameterTypes();
        Object[] values = new Object[types.length];
        for (int i = 0; i < types.length; i++) {
            int v;
            int kind = random.nextInt(20);
            if (kind == 0) {
                v = EDGES[random.nextInt(EDGES.length)];
            } else if (kind == 1) {
                v = random.nextInt();
            } else if (kind < 6) {
                v = random.nextInt(100);
            } else {
                v = random.nextInt(9) - 1;
            }
            if (types[i] == long.class) {
                values[i] = kind == 1 ? (Object) random.nextLong() : (Object) (long) v;
            } else {
                values[i] = v;
            }
        }
        if (m.getName().equals("writer") || m.getName().equals("bring")) {
            values[m.getName().equals("bring") ? 1 : 0] = random.nextInt(2199) - 1;
        }
        if (m.getName().equals("feed")) {
            String signs = "athdrm12345|&<=>+-*/%!()?;";
            values[0] = random.nextInt(30) == 0 ? random.nextInt(300) - 20 : (int) signs.charAt(random.nextInt(signs.length()));
        }
        if (m.getName().equals("drawn")) {
            values[1] = 100 * (random.nextInt(32)) + random.nextInt(32);
        }
        return values;
    }

    /** All of an object's state that calls can tell. */
    private static String state(TypewritersKnow x) {
        StringBuilder all = new StringBuilder();
        for (int i = 0; i < 6; i++) {
            all.append(x.count(i)).append(' ').append(x.led(i)).append(' ');
            for (int k = 0; k < 8; k++) {
                all.append(x.taken(i, k)).append(' ');
            }
            for (int k = 0; k < 60; k++) {
                all.append(x.element(i, k)).append(' ');
            }
        }
        for (int number = 0; number < 8; number++) {
            for (int what = 0; what <= 8; what++) {
                all.append(x.of(number, what)).append(' ');
            }
            for (int machine = 0; machine < 8; machine++) {
                for (int habit = 0; habit < 3; habit++) {
                    all.append(x.shows(10 * number + machine, habit, 0)).append(' ');
                }
            }
        }
        for (int i = 0; i < 24; i++) {
            all.append(x.trace(i)).append(' ');
        }
        return all.toString();
    }

    private static boolean refused(String name, long answer) {
        if (name.equals("put") || name.equals("act") || name.equals("law")) {
            return name.equals("put") && answer < 0;
        }
        return answer < 0;
    }

    private static void run(Method[] face, long seed) throws Exception {
        Random random = new Random(seed);
        TypewritersKnow x = new TypewritersKnow();
        TypewritersKnow twin = new TypewritersKnow();
        StringBuilder calls = new StringBuilder();
        for (int i = 0; i < 512; i++) {
            Method m = face[random.nextInt(face.length)];
            if (i < 12) {
                m = TypewritersKnow.class.getMethod(i % 2 == 0 ? "machine" : "writer", i % 2 == 0 ? new Class<?>[0] : new Class<?>[] {int.class});
            }
            Object[] values = arguments(m, random);
            calls.append(m.getName()).append(java.util.Arrays.toString(values)).append('\n');
            String before = state(x);
            long answer;
            try {
                answer = ((Number) m.invoke(x, values)).longValue();
            } catch (java.lang.reflect.InvocationTargetException e) {
                wrong++;
                System.out.println("run " + seed + " threw " + e.getCause() + " by\n" + calls);
                return;
            }
            boolean still = !DEEDS.contains(m.getName()) || refused(m.getName(), answer);
            if (still && !before.equals(state(x))) {
                wrong++;
                System.out.println("run " + seed + ": changed something, answering " + answer + ", by the last of\n" + calls);
                return;
            }
            long again = ((Number) m.invoke(twin, values)).longValue();
            if (again != answer) {
                wrong++;
                System.out.println("run " + seed + ": a twin answered " + again + ", not " + answer + ", by the last of\n" + calls);
                return;
            }
        }
    }

    public static void main(String[] args) throws Exception {
        Method[] face = face();
        for (long seed = 0; seed < 150 && wrong < 3; seed++) {
            run(face, seed);
        }
        System.out.println("150 runs of 512 calls of " + face.length + " methods, " + wrong + " wrong");
        if (wrong != 0 || face.length != 46) {
            System.exit(1);
        }
    }
}
