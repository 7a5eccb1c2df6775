import java.lang.reflect.Constructor;
import java.lang.reflect.Field;
import java.lang.reflect.Method;
import java.lang.reflect.Modifier;
import java.nio.file.Files;
import java.nio.file.Path;
import java.util.Set;
import java.util.TreeSet;
import java.util.regex.Matcher;
import java.util.regex.Pattern;

/** The rules of LANGUAGE.md that can be seen from outside, and the face of the document. Run in the project's folder. */
public final class LanguageTest {
    private static int wrong = 0;

    private static void so(boolean holds, String what) {
        if (!holds) {
            wrong++;
            System.out.println("not so: " + what);
        }
    }

    private static String bare(String source) {
        return source.replaceAll("(?s)/\\*.*?\\*/", "").replaceAll("//[^\n]*", "").replaceAll("'(\\\\.|[^'])'", "0");
    }

    private static Set<String> promised(String doc) {
        String face = doc.substring(doc.indexOf("```java"), doc.indexOf("## Terms"));
        Set<String> all = new TreeSet<>();
        Matcher m = Pattern.compile("public (int|long) (\\w+)\\(([^)]*)\\);").matcher(face);
        while (m.find()) {
            all.add(m.group(1) + " " + m.group(2) + "(" + m.group(3).replaceAll(" \\w+(?=,|$)", "") + ")");
        }
        return all;
    }

    private static String written(Method m) {
        StringBuilder all = new StringBuilder(m.getReturnType().getName() + " " + m.getName() + "(");
        Class<?>[] types = m.getParameterTypes();
        for (int i = 0; i < types.length; i++) {
            all.append(i == 0 ? "" : ", ").append(types[i].getName());
        }
        return all.append(")").toString();
    }

    private static void face(String doc) {
        Set<String> found = new TreeSet<>();
        Set<String> names = new TreeSet<>();
        for (Method m : TypewritersKnow.class.getDeclaredMethods()) {
            if (Modifier.isPublic(m.getModifiers())) {
                found.add(written(m));
                names.add(m.getName());
            } else {
                so(Modifier.isPrivate(m.getModifiers()), "1: " + m.getName() + " is private");
            }
        }
        so(found.equals(promised(doc)), "1: the face is " + found);
        so(found.size() == 46, "1: 46 methods");
        so(Modifier.isFinal(TypewritersKnow.class.getModifiers()), "1: the class is final");
        Constructor<?>[] made = TypewritersKnow.class.getDeclaredConstructors();
        so(made.length == 1 && Modifier.isPublic(made[0].getModifiers()) && made[0].getParameterCount() == 0, "1: the constructor");
        for (Field f : TypewritersKnow.class.getDeclaredFields()) {
            boolean told = Set.of("BAD", "NOT", "FULL", "STATE", "VOID").contains(f.getName());
            so(told == Modifier.isPublic(f.getModifiers()) && (told || Modifier.isPrivate(f.getModifiers())), "1: field " + f.getName());
        }
        ownNames(TypewritersKnow.class, names);
        Class<?>[] inside = TypewritersKnow.class.getDeclaredClasses();
        so(inside.length <= 11, "11: some twelve classes");
        for (Class<?> c : inside) {
            so(Modifier.isStatic(c.getModifiers()) && !Modifier.isPublic(c.getModifiers()), "2: " + c.getName());
            ownNames(c, names);
        }
    }

    private static void ownNames(Class<?> c, Set<String> names) {
        int fields = 0;
        for (Field f : c.getDeclaredFields()) {
            so(!Modifier.isStatic(f.getModifiers()) || Modifier.isFinal(f.getModifiers()), "5: " + f);
            fields += Modifier.isStatic(f.getModifiers()) ? 0 : 1;
        }
        so(fields <= 20, "11: fields of " + c.getName());
        for (Method m : c.getDeclaredMethods()) {
            so(m.getParameterCount() <= 7, "11: parameters of " + m);
            boolean ofFace = c == TypewritersKnow.class && Modifier.isPublic(m.getModifiers());
            so(ofFace || !names.contains(m.getName()), "1: name of " + m);
        }
    }

    private static void words(String source) {
        String[] never = {"throw", "throws", "try", "catch", "finally", "synchronized", "assert", "protected", "double", "float",
            "volatile", "native", "yield", "record", "lambda", "var", "Object", "hashCode", "toString", "equals", "String", "Exception"};
        for (String word : never) {
            so(!Pattern.compile("\\b" + word + "\\b").matcher(source).find(), "the word " + word);
        }
        so(!source.contains("->") && !source.contains("::"), "2: no lambda, no method reference");
        Matcher imports = Pattern.compile("import ([^;]*);").matcher(source);
        while (imports.find()) {
            so(imports.group(1).equals("java.util.Arrays"), "4: import " + imports.group(1));
        }
        Matcher library = Pattern.compile("\\b(Math|Integer|Long|System|Arrays)\\.(\\w+)").matcher(source);
        Set<String> allowed = Set.of("Math.abs", "Math.min", "Math.max", "Integer.bitCount", "Integer.numberOfTrailingZeros",
            "Integer.MAX_VALUE", "Long.MIN_VALUE", "System.arraycopy", "Arrays.fill");
        while (library.find()) {
            so(allowed.contains(library.group()), "4: " + library.group());
        }
        so(!source.contains("package "), "no package line");
        for (char c : source.toCharArray()) {
            so(c < 128, "plain signs");
        }
    }

    /** Rows are made with the object and used again, so that 512 calls need no more room than one. */
    private static void room(String source) {
        for (String line : source.split("\n")) {
            boolean field = line.matches("\\s*(private )?(static )?final .* = new .*;");
            so(!line.contains("new ") || field || line.trim().equals("shelves[i] = new Shelf();"), "room: " + line.trim());
            so(!line.contains(".clone(") && !line.contains("copyOf"), "room: " + line.trim());
        }
    }

    private static void lengths(String source) {
        int depth = 0;
        int start = 0;
        int startDepth = -1;
        String[] lines = source.split("\n");
        for (int i = 0; i < lines.length; i++) {
            String line = lines[i];
            if (startDepth < 0 && line.matches("\\s*(public |private |static |final )*[\\w\\[\\]]+ \\w+\\(.*\\{\\s*")) {
                start = i;
                startDepth = depth;
            }
            for (char c : line.toCharArray()) {
                depth += c == '{' ? 1 : c == '}' ? -1 : 0;
            }
            if (startDepth >= 0 && depth == startDepth) {
                so(i - start < 60, "11: length of " + lines[start].trim());
                startDepth = -1;
            }
        }
        so(depth == 0, "braces");
    }

    public static void main(String[] args) throws Exception {
        String shared = System.getProperty("shared", "../shared");
        String source = bare(Files.readString(Path.of("src/main/java/TypewritersKnow.java")));
        face(Files.readString(Path.of(shared, "DOC.md")));
        words(source);
        room(source);
        lengths(source);
        System.out.println("the rules: " + wrong + " not so");
        if (wrong != 0) {
            System.exit(1);
        }
    }
}
