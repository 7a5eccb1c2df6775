import java.lang.reflect.Array;
import java.util.ArrayList;
import java.util.Arrays;
import java.util.List;

/**
 * The class once more, from the document and in another way: rows are the host's own arrays, whose exceptions are
 * the refusals, ghosts are the host's own classes, a text is tried out by its completions, and all else by all ways.
 */
final class Plain {
    private static final int BAD = -1, NOT = -2, FULL = -3, STATE = -5;

    private static final class Machine {
        int[] pull = {6, 6, 6};
        int age = 0;

        Machine same() {
            Machine other = new Machine();
            other.pull = pull.clone();
            other.age = age;
            return other;
        }
    }

    private static final class Writer {
        int[] hand = new int[3];
        int touch = 6;
    }

    private record Change(int number, int what, int old, int fresh) { }

    private record Image(List<Machine> machines, List<int[]> hands, int[] led) { }

    private final List<Machine> machines = new ArrayList<>();
    private final List<Writer> writers = new ArrayList<>();
    private int ribbon = 5;
    private String tape = "";
    private String law = null;
    private final Object[] shelves = new Object[6];
    private final List<Change> undoable = new ArrayList<>();
    private final List<Change> redoable = new ArrayList<>();
    private int[] led = {0, 0, 0, 0, NOT};
    private Image kept = null;
    private final List<Ghost> ghosts = new ArrayList<>();
    private final List<Integer> trace = new ArrayList<>();

    // ---- machines, writers

    int machine() {
        if (machines.size() == 8) {
            return FULL;
        }
        machines.add(new Machine());
        return machines.size() - 1;
    }

    int machines(int shelf, int i, int n) {
        if (!within(shelf, 0, 5) || !within(n, 1, 8)) {
            return BAD;
        }
        if (shelves[shelf] != null && !(shelves[shelf] instanceof byte[])) {
            return -12;
        }
        byte[] row = (byte[]) shelves[shelf];
        int came = 0;
        try {
            while (came < n) {
                int at = Math.addExact(i, 3 * came);
                int[] pull = {row[at], row[at + 1], row[at + 2]};
                if (!Arrays.stream(pull).allMatch(p -> within(p, 0, 12)) || machine() == FULL) {
                    break;
                }
                machines.get(machines.size() - 1).pull = pull;
                came++;
            }
        } catch (NullPointerException | ArrayIndexOutOfBoundsException | ArithmeticException theRowEnds) {
            return came;
        }
        return came;
    }

    int writer(int code) {
        if (!within(code, 0, 2196)) {
            return BAD;
        }
        if (writers.size() == 8) {
            return FULL;
        }
        Writer w = new Writer();
        w.hand = parts(code);
        writers.add(w);
        return writers.size() - 1;
    }

    int mend(int number, int what, int v) {
        int was = of(number, what);
        int top = what == 3 ? 99 : what == 8 ? 9 : 12;
        if (was == BAD || !within(v, 0, top)) {
            return BAD;
        }
        if (was != v) {
            undoable.add(new Change(number, what, was, v));
            redoable.clear();
            if (undoable.size() > 40) {
                undoable.remove(0);
            }
            set(number, what, v);
        }
        return was;
    }

    int of(int number, int what) {
        if (within(what, 0, 3) && isMachine(number)) {
            return what == 3 ? machines.get(number).age : machines.get(number).pull[what];
        }
        if (within(what, 4, 7) && isWriter(number)) {
            return what == 7 ? writers.get(number).touch : writers.get(number).hand[what - 4];
        }
        return what == 8 && number == 0 ? ribbon : BAD;
    }

    int feed(int letter) {
        if (!within(letter, 0, 255)) {
            return BAD;
        }
        if (tape.length() == 120) {
            return FULL;
        }
        tape += (char) letter;
        return tape.length();
    }

    int law() {
        String text = tape;
        tape = "";
        if (new Reading(text, null).isText()) {
            law = text;
            return 1;
        }
        int good = 0;
        while (good < text.length() && goesOn(text.substring(0, good + 1))) {
            good++;
        }
        return -100 - good;
    }

    // ---- letters in thought

    int shows(int wm, int habit, int what) {
        if (!isPair(wm) || !within(habit, 0, 2) || !within(what, 0, 1)) {
            return BAD;
        }
        return what == 0 ? show(machines, wm / 10, wm % 10, ribbon)[habit] : grip(machines, wm / 10, wm % 10, habit, ribbon);
    }

    int later(int shelf, int n, int machine, int what) {
        if (!within(n, 0, 30) || !isMachine(machine) || !within(what, 0, 3)) {
            return BAD;
        }
        if (refusal(shelf, byte[].class) != 0) {
            return refusal(shelf, byte[].class);
        }
        List<Machine> then = thought();
        List<int[]> day = day(shelf);
        for (int[] letter : day.subList(0, Math.min(n, day.size()))) {
            type(then, letter[0], letter[1]);
        }
        return what == 3 ? then.get(machine).age : then.get(machine).pull[what];
    }

    int letter(int shelf, int k) {
        if (k < -1) {
            return BAD;
        }
        if (refusal(shelf, byte[].class) != 0) {
            return refusal(shelf, byte[].class);
        }
        List<Machine> then = thought();
        List<Integer> shown = new ArrayList<>();
        for (int[] letter : day(shelf)) {
            shown.add(code(show(then, letter[0], letter[1], ribbon)));
            type(then, letter[0], letter[1]);
        }
        return k == -1 ? shown.size() : k < shown.size() ? shown.get(k) : NOT;
    }

    int still(int shelf) {
        if (refusal(shelf, byte[].class) != 0) {
            return refusal(shelf, byte[].class);
        }
        List<Machine> then = thought();
        for (int rounds = 0; rounds <= 99; rounds++) {
            String before = pulls(then);
            for (int[] letter : day(shelf)) {
                type(then, letter[0], letter[1]);
            }
            if (before.equals(pulls(then))) {
                return rounds;
            }
        }
        return NOT;
    }

    int far(int wm) {
        return isPair(wm) ? apart(machines, wm / 10, wm % 10) : BAD;
    }

    int nearest(int one, int what) {
        if (what == 0 && isWriter(one)) {
            for (int far = 0; far <= 36; far++) {
                for (int m = 0; m < machines.size(); m++) {
                    if (apart(machines, one, m) == far) {
                        return m;
                    }
                }
            }
            return NOT;
        }
        return what == 1 && isMachine(one) ? nearestWriter(one) : BAD;
    }

    int given(int k) {
        if (!within(k, -1, writers.size() - 1)) {
            return BAD;
        }
        if (writers.size() > machines.size()) {
            return STATE;
        }
        int[] best = new int[writers.size() + 1];
        best[0] = Integer.MAX_VALUE;
        tryAll(new int[writers.size() + 1], 0, best);
        return best[k + 1];
    }

    int teach(int wm, int hv) {
        if (!isPair(wm) || hv < 0 || hv > 299 || hv % 100 > 12) {
            return BAD;
        }
        List<Machine> then = thought();
        for (int letters = 0; letters <= 30; letters++) {
            if (then.get(wm % 10).pull[hv / 100] == hv % 100) {
                return letters;
            }
            type(then, wm / 10, wm % 10);
        }
        return NOT;
    }

    int bring(int machine, int code, int k) {
        if (!isMachine(machine) || !within(code, 0, 2196) || k < -1) {
            return BAD;
        }
        int[] toGoal = waysTo(code);
        int at = code(machines.get(machine).pull);
        int letters = toGoal[at];
        if (letters == Integer.MAX_VALUE) {
            return NOT;
        }
        if (k == -1) {
            return letters;
        }
        for (int i = 0; i < letters; i++) {
            int w = 0;
            while (toGoal[moved(at, w)] != letters - i - 1) {
                w++;
            }
            if (i == k) {
                return w;
            }
            at = moved(at, w);
        }
        return NOT;
    }

    // ---- whose

    int whose(int shelf, int machine) {
        if (!isMachine(machine)) {
            return BAD;
        }
        if (refusal(shelf, byte[].class) != 0) {
            return refusal(shelf, byte[].class);
        }
        int bits = 0;
        for (int w = 0; w < writers.size(); w++) {
            bits += could(shelf, machines, w, machine) ? 1 << w : 0;
        }
        return bits;
    }

    int where(int shelf, int writer) {
        if (!isWriter(writer)) {
            return BAD;
        }
        if (refusal(shelf, byte[].class) != 0) {
            return refusal(shelf, byte[].class);
        }
        int bits = 0;
        for (int m = 0; m < machines.size(); m++) {
            bits += could(shelf, machines, writer, m) ? 1 << m : 0;
        }
        return bits;
    }

    int pairs(int shelf, int what) {
        if (!within(what, 0, 1)) {
            return BAD;
        }
        if (refusal(shelf, byte[].class) != 0) {
            return refusal(shelf, byte[].class);
        }
        int all = 0;
        List<Integer> who = new ArrayList<>();
        for (int w = 0; w < writers.size(); w++) {
            all += Integer.bitCount(where(shelf, w));
            if (where(shelf, w) != 0) {
                who.add(w);
            }
        }
        return what == 0 ? all : who.size() == 1 ? who.get(0) : NOT;
    }

    int between(int shelf, int wm, int other) {
        if (!isPair(wm) || !isWriter(other)) {
            return BAD;
        }
        if (refusal(shelf, byte[].class) != 0) {
            return refusal(shelf, byte[].class);
        }
        for (int letters = 0; letters <= 60; letters++) {
            List<Machine> then = thought();
            for (int i = 0; i < letters; i++) {
                type(then, wm / 10, wm % 10);
            }
            if (could(shelf, then, other, wm % 10)) {
                return letters;
            }
        }
        return NOT;
    }

    int judge(int shelf) {
        return refusal(shelf, short[].class) != 0 ? refusal(shelf, short[].class) : judged((short[]) shelves[shelf], ribbon);
    }

    int falseOne(int shelf, int k) {
        if (k < 0) {
            return BAD;
        }
        if (refusal(shelf, short[].class) != 0) {
            return refusal(shelf, short[].class);
        }
        short[] book = ((short[]) shelves[shelf]).clone();
        if (3L * k + 2 >= book.length) {
            return NOT;
        }
        int told = book[3 * k];
        int bits = 0;
        for (int w = 0; w < writers.size(); w++) {
            book[3 * k] = (short) w;
            bits += w != told && judged(book, ribbon) == NOT ? 1 << w : 0;
        }
        return bits;
    }

    int ribbons(int shelf, int what) {
        if (!within(what, 0, 1)) {
            return BAD;
        }
        if (refusal(shelf, short[].class) != 0) {
            return refusal(shelf, short[].class);
        }
        List<Integer> good = new ArrayList<>();
        for (int r = 0; r <= 9; r++) {
            if (judged((short[]) shelves[shelf], r) == NOT) {
                good.add(r);
            }
        }
        return what == 0 ? good.size() : good.isEmpty() ? NOT : good.get(0);
    }

    int morning(int machine, int n, int habit) {
        if (!isMachine(machine) || !within(n, 0, 60) || !within(habit, 0, 2)) {
            return BAD;
        }
        List<Machine> then = machines;
        for (int night = 0; night < n; night++) {
            then = nextMorning(then);
        }
        return then.get(machine).pull[habit];
    }

    int alike() {
        List<Machine> then = machines;
        for (int nights = 0; nights <= 99; nights++) {
            if (then.stream().map(m -> code(m.pull)).distinct().count() <= 1) {
                return nights;
            }
            then = nextMorning(then);
        }
        return NOT;
    }

    int price(int machine) {
        if (!isMachine(machine)) {
            return BAD;
        }
        int near = nearestWriter(machine);
        int less = near == NOT ? 50 : 3 * apart(machines, near, machine);
        return Math.max(0, 100 - less - machines.get(machine).age / 2);
    }

    int buy(int v, int what) {
        if (!within(v, 0, 999) || !within(what, 0, 1)) {
            return BAD;
        }
        // Most bought, then least pence, then least bits: the greatest of such a number.
        long best = Long.MIN_VALUE;
        for (int bits = 0; bits < 1 << machines.size(); bits++) {
            int pence = 0;
            for (int m = 0; m < machines.size(); m++) {
                pence += (bits >> m & 1) * price(m);
            }
            if (pence <= v) {
                best = Math.max(best, Integer.bitCount(bits) * 1000000L + (999 - pence) * 1000L + 255 - bits);
            }
        }
        return (int) (what == 0 ? best / 1000000 : 255 - best % 1000);
    }

    int drawn(int seed, int nm, int machine) {
        if (!within(nm / 100, 1, 30) || !within(nm % 100, 1, 30) || machine != -1 && !isMachine(machine)) {
            return BAD;
        }
        int z = seed;
        int far = 0;
        int often = 0;
        for (int day = 0; day < nm / 100 && !writers.isEmpty() && !machines.isEmpty(); day++) {
            List<Machine> then = thought();
            for (int i = 0; i < nm % 100; i++) {
                z = z * 1103515245 + 12345;
                type(then, (z >>> 8) % writers.size(), (z >>> 16) % machines.size());
                often += (z >>> 16) % machines.size() == machine ? 1 : 0;
            }
            for (int w = 0; w < writers.size(); w++) {
                for (int m = 0; m < machines.size(); m++) {
                    far += apart(then, w, m);
                }
            }
        }
        return machine == -1 ? far : often;
    }

    // ---- in deed

    int types(int wm) {
        if (!isPair(wm)) {
            return BAD;
        }
        int[] shown = show(machines, wm / 10, wm % 10, ribbon);
        type(machines, wm / 10, wm % 10);
        led[0]++;
        led[3] += shown[0] + shown[1] + shown[2];
        led[4] = wm % 10;
        return code(shown);
    }

    int clean(int machine) {
        if (!isMachine(machine)) {
            return BAD;
        }
        led[1]++;
        return machines.set(machine, new Machine()).age;
    }

    int learn(int wm) {
        if (!isPair(wm)) {
            return BAD;
        }
        led[2]++;
        int[] hand = writers.get(wm / 10).hand;
        for (int h = 0; h < 3; h++) {
            hand[h] += Integer.signum(machines.get(wm % 10).pull[h] - hand[h]);
        }
        return code(hand);
    }

    int led(int what) {
        return within(what, 0, 4) ? led[what] : BAD;
    }

    int image() {
        kept = new Image(thought(), writers.stream().map(w -> w.hand.clone()).toList(), led.clone());
        return led[0];
    }

    int back() {
        if (kept == null) {
            return STATE;
        }
        for (int m = 0; m < kept.machines().size(); m++) {
            machines.set(m, kept.machines().get(m).same());
        }
        for (int w = 0; w < kept.hands().size(); w++) {
            writers.get(w).hand = kept.hands().get(w).clone();
        }
        led = kept.led().clone();
        return led[0];
    }

    int undo() {
        if (undoable.isEmpty()) {
            return STATE;
        }
        Change c = undoable.remove(undoable.size() - 1);
        redoable.add(c);
        set(c.number(), c.what(), c.old());
        return undoable.size();
    }

    int redo() {
        if (redoable.isEmpty()) {
            return STATE;
        }
        Change c = redoable.remove(redoable.size() - 1);
        undoable.add(c);
        set(c.number(), c.what(), c.fresh());
        return redoable.size();
    }

    // ---- acts, shelves

    int body(int kind) {
        if (!within(kind, 0, 7)) {
            return BAD;
        }
        if (ghosts.size() == 50) {
            return FULL;
        }
        Ghost[] made = {new Ghost(), new Poet(), new Spy(), new Novel(), new Nun(), new Liar(), new Chief(), new Drowned()};
        Ghost g = made[kind];
        g.n = ghosts.size();
        g.trace = trace;
        ghosts.add(g);
        return g.n;
    }

    int act(int body, int act, int x) {
        trace.clear();
        if (!within(body, 0, ghosts.size() - 1)) {
            return 0;
        }
        Ghost g = ghosts.get(body);
        switch (act) {
            case 0: return g.types(x);
            case 1: return g.sticks(x);
            case 2: return g.rings(x);
            case 3: return g.tells(x);
            default: return 0;
        }
    }

    int trace(int i) {
        return within(i, 0, Math.min(24, trace.size()) - 1) ? trace.get(i) : BAD;
    }

    int keep(int shelf, int body) {
        if (!within(shelf, 0, 5) || !within(body, -1, ghosts.size() - 1)) {
            return BAD;
        }
        shelves[shelf] = body == -1 ? null : ghosts.get(body);
        return 1;
    }

    int row(int shelf, int sort, int n) {
        if (!within(shelf, 0, 5) || !within(sort, 0, 4) || n > 60) {
            return BAD;
        }
        Class<?>[] sorts = {byte.class, short.class, int.class, long.class, boolean.class};
        try {
            shelves[shelf] = Array.newInstance(sorts[sort], n);
        } catch (NegativeArraySizeException below) {
            return -14;
        }
        return 1;
    }

    int put(int shelf, int i, long v) {
        if (!within(shelf, 0, 5)) {
            return BAD;
        }
        Object row = shelves[shelf];
        try {
            Array.getLength(row);
            if (row instanceof byte[]) {
                ((byte[]) row)[i] = (byte) v;
            } else if (row instanceof short[]) {
                ((short[]) row)[i] = (short) v;
            } else if (row instanceof int[]) {
                ((int[]) row)[i] = (int) v;
            } else if (row instanceof long[]) {
                ((long[]) row)[i] = v;
            } else {
                ((boolean[]) row)[i] = v != 0;
            }
            return 1;
        } catch (NullPointerException nothing) {
            return -11;
        } catch (IllegalArgumentException noRow) {
            return -12;
        } catch (ArrayIndexOutOfBoundsException noPlace) {
            return -13;
        }
    }

    long element(int shelf, int i) {
        try {
            Object got = Array.get(shelves[shelf], i);
            return got instanceof Boolean ? (Boolean) got ? 1 : 0 : ((Number) got).longValue();
        } catch (NullPointerException | IllegalArgumentException | ArrayIndexOutOfBoundsException refused) {
            return Long.MIN_VALUE;
        }
    }

    int shift(int shelf, int i, int other, int j, int n) {
        if (!within(shelf, 0, 5) || !within(other, 0, 5)) {
            return BAD;
        }
        try {
            System.arraycopy(shelves[shelf], i, shelves[other], j, n);
            return n;
        } catch (NullPointerException nothing) {
            return -11;
        } catch (ArrayStoreException unlike) {
            return -12;
        } catch (IndexOutOfBoundsException noPlace) {
            return -13;
        }
    }

    int taken(int shelf, int k) {
        if (!within(shelf, 0, 5) || !within(k, 0, 7)) {
            return BAD;
        }
        Class<?>[] kinds = {Ghost.class, Poet.class, Spy.class, Novel.class, Nun.class, Liar.class, Chief.class, Drowned.class};
        if (shelves[shelf] == null) {
            return -11;
        }
        try {
            return Arrays.asList(kinds).indexOf(kinds[k].cast(shelves[shelf]).getClass());
        } catch (ClassCastException another) {
            return -12;
        }
    }

    int count(int what) {
        int[] all = {machines.size(), writers.size(), tape.length(), undoable.size(), ghosts.size(), trace.size()};
        return within(what, 0, 5) ? all[what] : BAD;
    }

    // ---- what the calls share

    private static boolean within(int v, int least, int most) {
        return v >= least && v <= most;
    }

    private boolean isMachine(int m) {
        return within(m, 0, machines.size() - 1);
    }

    private boolean isWriter(int w) {
        return within(w, 0, writers.size() - 1);
    }

    private boolean isPair(int wm) {
        return within(wm, 0, 77) && isWriter(wm / 10) && isMachine(wm % 10);
    }

    private int refusal(int shelf, Class<?> wanted) {
        if (!within(shelf, 0, 5)) {
            return BAD;
        }
        return shelves[shelf] == null ? -11 : wanted.isInstance(shelves[shelf]) ? 0 : -12;
    }

    private static int code(int[] parts) {
        return 169 * parts[0] + 13 * parts[1] + parts[2];
    }

    private static int[] parts(int code) {
        return new int[] {code / 169, code / 13 % 13, code % 13};
    }

    private void set(int number, int what, int v) {
        if (what == 8) {
            ribbon = v;
        } else if (what == 7) {
            writers.get(number).touch = v;
        } else if (what == 3) {
            machines.get(number).age = v;
        } else if (what > 3) {
            writers.get(number).hand[what - 4] = v;
        } else {
            machines.get(number).pull[what] = v;
        }
    }

    private List<Machine> thought() {
        List<Machine> all = new ArrayList<>();
        for (Machine m : machines) {
            all.add(m.same());
        }
        return all;
    }

    private static String pulls(List<Machine> then) {
        return then.stream().map(m -> Arrays.toString(m.pull)).toList().toString();
    }

    private int grip(List<Machine> then, int w, int m, int h, int r) {
        int a = then.get(m).age;
        int t = writers.get(w).touch;
        int d = Math.abs(writers.get(w).hand[h] - then.get(m).pull[h]);
        int free = law == null ? 6 + a / 10 - t / 3 : new Reading(law, new int[] {a, t, h, d, r, m}).value();
        return free < 0 ? 0 : free > 12 ? 12 : free;
    }

    private int[] show(List<Machine> then, int w, int m, int r) {
        int[] shown = new int[3];
        for (int h = 0; h < 3; h++) {
            int grip = grip(then, w, m, h, r);
            shown[h] = (writers.get(w).hand[h] * (12 - grip) + then.get(m).pull[h] * grip) / 12;
        }
        return shown;
    }

    private void type(List<Machine> then, int w, int m) {
        for (int h = 0; h < 3; h++) {
            then.get(m).pull[h] += Integer.signum(writers.get(w).hand[h] - then.get(m).pull[h]);
        }
        then.get(m).age += then.get(m).age < 99 ? 1 : 0;
    }

    private List<int[]> day(int shelf) {
        byte[] row = (byte[]) shelves[shelf];
        List<int[]> letters = new ArrayList<>();
        for (int i = 0; i + 1 < row.length && isWriter(row[i]) && isMachine(row[i + 1]); i += 2) {
            letters.add(new int[] {row[i], row[i + 1]});
        }
        return letters;
    }

    private int apart(List<Machine> then, int w, int m) {
        int all = 0;
        for (int h = 0; h < 3; h++) {
            all += Math.abs(writers.get(w).hand[h] - then.get(m).pull[h]);
        }
        return all;
    }

    private int nearestWriter(int m) {
        for (int far = 0; far <= 36; far++) {
            for (int w = 0; w < writers.size(); w++) {
                if (apart(machines, w, m) == far) {
                    return w;
                }
            }
        }
        return NOT;
    }

    /** Place 0 has FAR together, place w + 1 the MACHINE of w; the first of like ones is found first. */
    private void tryAll(int[] way, int w, int[] best) {
        if (w == writers.size()) {
            if (way[0] < best[0]) {
                System.arraycopy(way, 0, best, 0, way.length);
            }
            return;
        }
        for (int m = 0; m < machines.size(); m++) {
            boolean free = true;
            for (int other = 0; other < w; other++) {
                free &= way[other + 1] != m;
            }
            if (free) {
                way[w + 1] = m;
                way[0] += apart(machines, w, m);
                tryAll(way, w + 1, best);
                way[0] -= apart(machines, w, m);
            }
        }
    }

    private int moved(int code, int w) {
        int[] pull = parts(code);
        for (int h = 0; h < 3; h++) {
            pull[h] += Integer.signum(writers.get(w).hand[h] - pull[h]);
        }
        return code(pull);
    }

    /** For each code, the fewest LETTERS from it to the goal: made better until nothing changes. */
    private int[] waysTo(int goal) {
        int[] least = new int[2197];
        Arrays.fill(least, Integer.MAX_VALUE);
        least[goal] = 0;
        boolean better = true;
        while (better) {
            better = false;
            for (int code = 0; code < 2197; code++) {
                for (int w = 0; w < writers.size(); w++) {
                    int next = least[moved(code, w)];
                    if (next != Integer.MAX_VALUE && next + 1 < least[code]) {
                        least[code] = next + 1;
                        better = true;
                    }
                }
            }
        }
        return least;
    }

    private boolean could(int shelf, List<Machine> then, int w, int m) {
        byte[] sheet = (byte[]) shelves[shelf];
        int[] shown = show(then, w, m, ribbon);
        for (int h = 0; h < Math.min(3, sheet.length); h++) {
            if (sheet[h] != shown[h]) {
                return false;
            }
        }
        return true;
    }

    private int judged(short[] book, int r) {
        List<Machine> then = thought();
        for (int i = 0; i < book.length; i += 3) {
            boolean so = i + 2 < book.length && isWriter(book[i]) && isMachine(book[i + 1])
                && code(show(then, book[i], book[i + 1], r)) == book[i + 2];
            if (!so) {
                return i / 3;
            }
            type(then, book[i], book[i + 1]);
        }
        return NOT;
    }

    private static List<Machine> nextMorning(List<Machine> evening) {
        List<Machine> all = new ArrayList<>();
        for (int m = 0; m < evening.size(); m++) {
            Machine next = evening.get(m).same();
            int[] beside = evening.get((m + 1) % evening.size()).pull;
            for (int h = 0; h < 3; h++) {
                next.pull[h] += Integer.signum(beside[h] - next.pull[h]);
            }
            all.add(next);
        }
        return all;
    }

    // ---- the law

    /** A start of a TEXT: an operand may lack, and what closes the open ones. */
    private static boolean goesOn(String start) {
        for (int open = 0; open <= 6; open++) {
            String closed = ")".repeat(open);
            if (new Reading(start + closed, null).isText() || new Reading(start + "1" + closed, null).isText()) {
                return true;
            }
        }
        return false;
    }

    private static final class Reading {
        private static final class NoText extends RuntimeException { }

        private final String text;
        private final int[] names;
        private int at = 0;
        private int open = 0;

        Reading(String text, int[] names) {
            this.text = text;
            this.names = names == null ? new int[6] : names;
        }

        boolean isText() {
            try {
                value();
                return true;
            } catch (NoText no) {
                return false;
            }
        }

        int value() {
            Integer counts = null;
            do {
                int value = e();
                boolean so = true;
                if (comes("?")) {
                    so = value != 0;
                    value = e();
                }
                counts = counts == null && so ? (Integer) value : counts;
            } while (comes(";"));
            if (at < text.length()) {
                throw new NoText();
            }
            return counts == null ? 0 : counts;
        }

        private boolean comes(String signs) {
            boolean so = at < text.length() && signs.indexOf(text.charAt(at)) >= 0;
            at += so ? 1 : 0;
            return so;
        }

        private char latest() {
            return text.charAt(at - 1);
        }

        private int e() {
            int v = a();
            while (comes("|")) {
                int other = a();
                v = v != 0 | other != 0 ? 1 : 0;
            }
            return v;
        }

        private int a() {
            int v = b();
            while (comes("&")) {
                int other = b();
                v = v != 0 & other != 0 ? 1 : 0;
            }
            return v;
        }

        private int b() {
            int v = s();
            if (comes("<=>")) {
                char sign = latest();
                int order = Integer.compare(v, s());
                return order == (sign == '<' ? -1 : sign == '=' ? 0 : 1) ? 1 : 0;
            }
            return v;
        }

        private int s() {
            int v = p();
            while (comes("+-")) {
                v += latest() == '+' ? p() : -p();
            }
            return v;
        }

        private int p() {
            int v = o();
            while (comes("*/%")) {
                char sign = latest();
                int other = o();
                v = sign == '*' ? v * other : other == 0 ? 0 : sign == '/' ? v / other : v % other;
            }
            return v;
        }

        private int o() {
            if (comes("0123456789")) {
                int from = at - 1;
                while (at - from < 4 && comes("0123456789")) {
                    continue;
                }
                return Integer.parseInt(text.substring(from, at));
            }
            if (comes("athdrm")) {
                return names["athdrm".indexOf(latest())];
            }
            if (open == 6 || !comes("!-(")) {
                throw new NoText();
            }
            char sign = latest();
            open++;
            int v = sign == '(' ? e() : o();
            if (sign == '(' && !comes(")")) {
                throw new NoText();
            }
            open--;
            return sign == '(' ? v : sign == '-' ? -v : v == 0 ? 1 : 0;
        }
    }

    // ---- the ghosts, as the host has them

    private interface Types {
        int ran(int number, int x);

        int n();

        default int types(int x) {
            ran(1, x);
            return x + n();
        }
    }

    private interface Tells {
        int ran(int number, int x);

        int sticks(int x);

        int rings(int x);

        default int tells(int x) {
            ran(2, x);
            return sticks(x) - rings(1);
        }
    }

    private static class Ghost implements Types, Tells {
        int n;
        List<Integer> trace;

        public int ran(int number, int x) {
            trace.add(number);
            return x;
        }

        public int n() {
            return n;
        }

        public int sticks(int x) {
            ran(10, x);
            return types(x) * 2;
        }

        public int rings(int x) {
            return ran(11, x) ^ n;
        }
    }

    private static class Poet extends Ghost {
        public int types(int x) {
            return super.types(ran(20, x)) + 3;
        }
    }

    private static class Spy extends Ghost {
        public int sticks(int x) {
            return -super.sticks(ran(30, x));
        }
    }

    private static class Novel extends Spy {
        public int rings(int x) {
            return super.rings(ran(40, x)) * 3;
        }

        public int sticks(int x) {
            return super.sticks(ran(41, x) + 1);
        }
    }

    private static class Nun extends Poet {
        public int rings(int x) {
            return super.rings(ran(50, x)) - types(2);
        }
    }

    private static class Liar extends Novel {
        public int tells(int x) {
            return super.tells(ran(60, x)) ^ 5;
        }
    }

    private static class Chief extends Ghost {
        public int types(int x) {
            return super.types(ran(70, x)) * 2;
        }
    }

    private static class Drowned extends Nun {
        public int sticks(int x) {
            return super.sticks(ran(80, x)) + rings(2);
        }

        public int tells(int x) {
            return super.tells(ran(81, x)) - 1;
        }
    }
}
