import java.lang.reflect.Method;
import java.nio.file.Files;
import java.nio.file.Path;
import java.util.regex.Matcher;
import java.util.regex.Pattern;

/** README.md: each call in it answers what stands behind it, and all calls of the face are named. Run in the project's folder. */
public final class ReadmeTest {
    private static final Pattern CALL = Pattern.compile("agency\\.(\\w+)\\((.*)\\);\\s*// (-?\\d+)(:.*)?");
    private static final String MADE = "TypewritersKnow agency = new TypewritersKnow();";
    private static int wrong = 0;

    private static void so(boolean holds, String what) {
        if (!holds) {
            wrong++;
            System.out.println("not so: " + what);
        }
    }

    private static long number(String told) {
        return told.startsWith("'") ? told.charAt(1) : Long.parseLong(told);
    }

    private static Method methodOf(String name) {
        for (Method m : TypewritersKnow.class.getMethods()) {
            if (m.getName().equals(name)) {
                return m;
            }
        }
        throw new IllegalStateException(name);
    }

    private static long answer(TypewritersKnow agency, String name, String told) throws ReflectiveOperationException {
        Method m = methodOf(name);
        Class<?>[] types = m.getParameterTypes();
        Object[] arguments = new Object[types.length];
        String[] parts = told.isEmpty() ? new String[0] : told.split(", ");
        so(parts.length == types.length, name + " has " + types.length + " arguments");
        for (int i = 0; i < types.length; i++) {
            long v = number(parts[i]);
            arguments[i] = types[i] == long.class ? (Object) v : (Object) (int) v;
        }
        return ((Number) m.invoke(agency, arguments)).longValue();
    }

    private static int runCalls(String readme) throws ReflectiveOperationException {
        TypewritersKnow agency = null;
        boolean inCode = false;
        int calls = 0;
        for (String line : readme.split("\n")) {
            if (line.startsWith("```")) {
                inCode = line.equals("```java");
            } else if (inCode && line.equals(MADE)) {
                agency = new TypewritersKnow();
            } else if (inCode) {
                Matcher m = CALL.matcher(line);
                if (!m.matches()) {
                    so(false, "a call and its answer: " + line);
                    continue;
                }
                calls++;
                long got = answer(agency, m.group(1), m.group(2));
                so(got == Long.parseLong(m.group(3)), line + " answered " + got);
            }
        }
        return calls;
    }

    public static void main(String[] args) throws Exception {
        String readme = Files.readString(Path.of("README.md"));
        int calls = runCalls(readme);
        so(calls > 20, "there are calls in it");
        for (Method m : TypewritersKnow.class.getDeclaredMethods()) {
            boolean ofFace = java.lang.reflect.Modifier.isPublic(m.getModifiers());
            so(!ofFace || Pattern.compile("[ `]" + m.getName() + "[ `]").matcher(readme).find(), m.getName() + " is named");
        }
        so(readme.contains(".ci/run"), "it says how to run the tests");
        System.out.println(calls + " calls of README.md, " + wrong + " wrong");
        if (wrong != 0) {
            System.exit(1);
        }
    }
}
