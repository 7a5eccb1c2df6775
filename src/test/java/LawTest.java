import java.util.ArrayDeque;
import java.util.Random;

/** Promise 8 against another reading of the grammar: faults by signs alone, values by parting the text. */
public final class LawTest {
    private static final String SIGNS = "|&<=>+-*/%";
    private static int wrong = 0;

    private static void due(String what, long got, long want) {
        if (got != want) {
            wrong++;
            System.out.println(what + " answered " + got + ", due is " + want);
        }
    }

    /** The fault of a text, or -1: reads it sign by sign, without levels. */
    private static int fault(String text) {
        // One entry for each open sign: '(' with whether a comparison stood ahead of it, '!' or '-'.
        ArrayDeque<Character> open = new ArrayDeque<>();
        ArrayDeque<Boolean> outer = new ArrayDeque<>();
        boolean operandDue = true;
        boolean compared = false;
        boolean asked = false;
        int digits = 0;
        for (int i = 0; i < text.length(); i++) {
            char c = text.charAt(i);
            boolean digit = c >= '0' && c <= '9';
            if (!operandDue && digits > 0 && digits < 4 && digit) {
                digits++;
                continue;
            }
            if (operandDue) {
                if (digit || "athdrm".indexOf(c) >= 0) {
                    digits = digit ? 1 : 0;
                    operandDue = false;
                    closePrefixes(open);
                } else if ("(!-".indexOf(c) >= 0 && open.size() < 6) {
                    open.push(c);
                    if (c == '(') {
                        outer.push(compared);
                        compared = false;
                    }
                } else {
                    return i;
                }
                continue;
            }
            digits = 0;
            if (c == ')' && !open.isEmpty()) {
                open.pop();
                compared = outer.pop();
                closePrefixes(open);
                continue;
            }
            operandDue = true;
            if (c == ';' && open.isEmpty()) {
                compared = false;
                asked = false;
            } else if (c == '?' && open.isEmpty() && !asked) {
                compared = false;
                asked = true;
            } else if (c == '|' || c == '&') {
                compared = false;
            } else if ("<=>".indexOf(c) >= 0 && !compared) {
                compared = true;
            } else if ("+-*/%".indexOf(c) < 0) {
                return i;
            }
        }
        return operandDue || !open.isEmpty() ? text.length() : -1;
    }

    private static void closePrefixes(ArrayDeque<Character> open) {
        while (!open.isEmpty() && open.peek() != '(') {
            open.pop();
        }
    }

    private static int lawValue(String text, int[] names) {
        for (String line : text.split(";")) {
            int ask = line.indexOf('?');
            if (ask < 0) {
                return value(line, names);
            }
            if (value(line.substring(0, ask), names) != 0) {
                return value(line.substring(ask + 1), names);
            }
        }
        return 0;
    }

    /** Parts the text at its last sign of the loosest level that stands between operands. */
    private static int value(String e, int[] names) {
        String[] levels = {"|", "&", "<=>", "+-", "*/%"};
        for (String level : levels) {
            int depth = 0;
            for (int i = e.length() - 1; i > 0; i--) {
                char c = e.charAt(i);
                depth += c == ')' ? 1 : c == '(' ? -1 : 0;
                boolean between = SIGNS.indexOf(e.charAt(i - 1)) < 0 && "(!".indexOf(e.charAt(i - 1)) < 0;
                if (depth == 0 && between && level.indexOf(c) >= 0) {
                    return joined(c, value(e.substring(0, i), names), value(e.substring(i + 1), names));
                }
            }
        }
        char first = e.charAt(0);
        if (first == '!') {
            return value(e.substring(1), names) == 0 ? 1 : 0;
        }
        if (first == '-') {
            return -value(e.substring(1), names);
        }
        if (first == '(') {
            return value(e.substring(1, e.length() - 1), names);
        }
        int name = "athdrm".indexOf(first);
        return name >= 0 ? names[name] : Integer.parseInt(e);
    }

    private static int joined(char sign, int a, int b) {
        switch (sign) {
            case '|': return a != 0 | b != 0 ? 1 : 0;
            case '&': return a != 0 & b != 0 ? 1 : 0;
            case '<': return a < b ? 1 : 0;
            case '=': return a == b ? 1 : 0;
            case '>': return a > b ? 1 : 0;
            case '+': return a + b;
            case '-': return a - b;
            case '*': return a * b;
            case '/': return b == 0 ? 0 : (int) ((long) a / b);
            default: return b == 0 ? 0 : (int) ((long) a % b);
        }
    }

    private static String grown(Random random, int level, int open) {
        StringBuilder text = new StringBuilder();
        String[] levels = {"|", "&", "<=>", "+-", "*/%"};
        if (level == 5) {
            int kind = random.nextInt(open < 6 ? 9 : 6);
            if (kind < 3) {
                return String.valueOf(random.nextInt(kind == 0 ? 10000 : 14));
            }
            if (kind < 6) {
                return String.valueOf("athdrm".charAt(random.nextInt(6)));
            }
            if (kind == 8) {
                return text.append('(').append(grown(random, 0, open + 1)).append(')').toString();
            }
            return text.append(kind == 6 ? '!' : '-').append(grown(random, 5, open + 1)).toString();
        }
        text.append(grown(random, level + 1, open));
        int more = random.nextInt(3) == 0 ? level == 2 ? 1 : 1 + random.nextInt(2) : 0;
        for (int i = 0; i < more; i++) {
            text.append(levels[level].charAt(random.nextInt(levels[level].length())));
            text.append(grown(random, level + 1, open));
        }
        return text.toString();
    }

    private static String text(Random random) {
        StringBuilder text = new StringBuilder();
        int lines = 1 + random.nextInt(3);
        for (int i = 0; i < lines; i++) {
            text.append(i == 0 ? "" : ";").append(grown(random, 0, 0));
            if (random.nextInt(3) > 0) {
                text.append('?').append(grown(random, 0, 0));
            }
        }
        return text.toString();
    }

    private static String spoiled(Random random, String text) {
        String all = "athdrm0123456789|&<=>+-*/%!()?;x b";
        StringBuilder other = new StringBuilder(text);
        int at = random.nextInt(text.length() + 1);
        char c = all.charAt(random.nextInt(all.length()));
        if (random.nextBoolean() || at == text.length()) {
            other.insert(at, c);
        } else if (random.nextBoolean()) {
            other.deleteCharAt(at);
        } else {
            other.setCharAt(at, c);
        }
        return other.length() > 120 ? other.substring(0, 120) : other.toString();
    }

    private static void check(Random random, String text) {
        TypewritersKnow x = new TypewritersKnow();
        int machines = 1 + random.nextInt(8);
        for (int i = 0; i < machines; i++) {
            x.machine();
        }
        x.writer(random.nextInt(2197));
        int m = random.nextInt(machines);
        x.mend(m, 3, random.nextInt(100));
        x.mend(0, 7, random.nextInt(13));
        x.mend(0, 8, random.nextInt(10));
        int free = x.shows(m, 0, 1);
        for (int i = 0; i < text.length(); i++) {
            due("feed", x.feed(text.charAt(i)), i + 1);
        }
        int fault = fault(text);
        due("law of " + text, x.law(), fault < 0 ? 1 : -100 - fault);
        for (int h = 0; h < 3; h++) {
            int unlike = Math.abs(x.of(m, h) - x.of(0, 4 + h));
            int[] names = {x.of(m, 3), x.of(0, 7), h, unlike, x.of(0, 8), m};
            int grip = fault < 0 ? Math.max(0, Math.min(12, lawValue(text, names))) : free;
            due("grip of " + text, x.shows(m, h, 1), grip);
            due("shows by " + text, x.shows(m, h, 0), (x.of(0, 4 + h) * (12 - grip) + x.of(m, h) * grip) / 12);
        }
    }

    public static void main(String[] args) {
        Random random = new Random(8);
        int good = 0;
        for (int i = 0; i < 40000; i++) {
            String text = text(random);
            if (text.length() > 120) {
                text = text.substring(0, 120);
            }
            for (int spoil = random.nextInt(3); spoil > 0; spoil--) {
                text = spoiled(random, text);
            }
            good += fault(text) < 0 ? 1 : 0;
            check(random, text);
        }
        System.out.println(good + " texts of 40000 were laws, " + wrong + " wrong");
        if (wrong != 0 || good < 5000) {
            System.exit(1);
        }
    }
}
