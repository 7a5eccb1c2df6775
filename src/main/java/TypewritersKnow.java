import java.util.Arrays;

/** An agency of typewriters that keep the habits of past hands; ../shared/DOC.md has its promises. */
public final class TypewritersKnow {
    public static final int BAD = -1, NOT = -2, FULL = -3, STATE = -5, VOID = -2000000000;

    private static final int NOTHING_THERE = -11, OTHER_KIND = -12, NO_PLACE = -13, BELOW_ZERO = -14;
    private static final int BYTES = 0, SHORTS = 1;
    private static final int SHELVES = 6;
    private static final int DAY_MOST = 30, TEACH_MOST = 30, BETWEEN_MOST = 60, NIGHTS_MOST = 60, WAIT_MOST = 99;

    private final Machines now = new Machines();
    private final Machines thought = new Machines();
    private final Writers writers = new Writers();
    private final Tape tape = new Tape();
    private final Law grips = new Law();
    private final Shelf[] shelves = new Shelf[SHELVES];
    private final Changes changes = new Changes();
    private final Ghosts ghosts = new Ghosts();
    private final Ledger ledger = new Ledger();
    private final Bringing bringing = new Bringing();
    private final int[] givenRest = new int[1 << Machines.MOST];
    private final int[] prices = new int[Machines.MOST];
    private final Machines keptMachines = new Machines();
    private final Writers keptWriters = new Writers();
    private final Ledger keptLedger = new Ledger();
    private boolean imageKept;

    public TypewritersKnow() {
        for (int i = 0; i < SHELVES; i++) {
            shelves[i] = new Shelf();
        }
    }

    // ---- machines, writers

    public int machine() {
        return now.isFull() ? FULL : now.join(6, 6, 6);
    }

    public int machines(int shelf, int i, int n) {
        if (!isShelf(shelf) || n < 1 || n > Machines.MOST) {
            return BAD;
        }
        Shelf from = shelves[shelf];
        if (from.isEmpty()) {
            return 0;
        }
        if (!from.isRowOf(BYTES)) {
            return OTHER_KIND;
        }
        int came = 0;
        // A place i that is not there ends it at once, as the row's end does, before 3 * came can wrap.
        while (came < n && i < from.size && !now.isFull() && pullsStandAt(from, i + 3 * came)) {
            int at = i + 3 * came;
            now.join((int) from.cells[at], (int) from.cells[at + 1], (int) from.cells[at + 2]);
            came++;
        }
        return came;
    }

    public int writer(int code) {
        if (!Codes.isCode(code)) {
            return BAD;
        }
        return writers.isFull() ? FULL : writers.join(code);
    }

    public int mend(int number, int what, int v) {
        if (!isNumberOf(number, what) || v < 0 || v > topOf(what)) {
            return BAD;
        }
        int was = valueOf(number, what);
        if (was != v) {
            changes.add(number, what, was, v);
            setValue(number, what, v);
        }
        return was;
    }

    public int of(int number, int what) {
        return isNumberOf(number, what) ? valueOf(number, what) : BAD;
    }

    public int feed(int letter) {
        if (letter < 0 || letter > 255) {
            return BAD;
        }
        return tape.isFull() ? FULL : tape.addByte(letter);
    }

    public int law() {
        boolean isText = tape.read();
        tape.size = 0;
        if (!isText) {
            return -100 - tape.at;
        }
        grips.become(tape);
        return 1;
    }

    // ---- letters in thought

    public int shows(int wm, int habit, int what) {
        if (!isPair(wm) || habit < 0 || habit >= Codes.HABITS || what < 0 || what > 1) {
            return BAD;
        }
        return what == 0 ? shown(now, wm / 10, wm % 10, habit) : gripOf(now, wm / 10, wm % 10, habit);
    }

    public int later(int shelf, int n, int machine, int what) {
        if (n < 0 || n > DAY_MOST || !now.has(machine) || what < 0 || what > 3) {
            return BAD;
        }
        int refused = rowRefusal(shelf, BYTES);
        if (refused != 0) {
            return refused;
        }
        thinkDay(shelves[shelf], n);
        return what == 3 ? thought.ages[machine] : thought.pull(machine, what);
    }

    public int letter(int shelf, int k) {
        if (k < -1) {
            return BAD;
        }
        int refused = rowRefusal(shelf, BYTES);
        if (refused != 0) {
            return refused;
        }
        Shelf day = shelves[shelf];
        if (k == -1) {
            return thinkDay(day, DAY_MOST);
        }
        if (k >= DAY_MOST || thinkDay(day, k) < k || !dayHas(day, k)) {
            return NOT;
        }
        return shownCode(thought, (int) day.cells[2 * k], (int) day.cells[2 * k + 1]);
    }

    public int still(int shelf) {
        int refused = rowRefusal(shelf, BYTES);
        if (refused != 0) {
            return refused;
        }
        Shelf day = shelves[shelf];
        thought.copy(now);
        for (int rounds = 0; rounds <= WAIT_MOST; rounds++) {
            if (!playRound(day)) {
                return rounds;
            }
        }
        return NOT;
    }

    public int far(int wm) {
        return isPair(wm) ? apart(now, wm / 10, wm % 10) : BAD;
    }

    public int nearest(int one, int what) {
        if (what == 0) {
            return writers.has(one) ? nearestMachine(one) : BAD;
        }
        if (what == 1) {
            return now.has(one) ? nearestWriter(one) : BAD;
        }
        return BAD;
    }

    public int given(int k) {
        if (k < -1 || k >= writers.size) {
            return BAD;
        }
        if (writers.size > now.size) {
            return STATE;
        }
        fillGivenRest();
        if (k == -1) {
            return givenRest[0];
        }
        int taken = 0;
        int gets = 0;
        for (int writer = 0; writer <= k; writer++) {
            gets = givenTo(writer, taken);
            taken |= 1 << gets;
        }
        return gets;
    }

    public int teach(int wm, int hv) {
        if (!isPair(wm) || hv < 0 || hv / 100 >= Codes.HABITS || hv % 100 > Codes.TOP) {
            return BAD;
        }
        int habit = hv / 100;
        int hand = writers.hand(wm / 10, habit);
        int pull = now.pull(wm % 10, habit);
        for (int letters = 0; letters <= TEACH_MOST; letters++) {
            if (pull == hv % 100) {
                return letters;
            }
            pull = Codes.nearer(pull, hand);
        }
        return NOT;
    }

    public int bring(int machine, int code, int k) {
        if (!now.has(machine) || !Codes.isCode(code) || k < -1) {
            return BAD;
        }
        int letters = bringing.fewest(now.pullCode(machine), code, writers);
        if (k == -1 || letters < 0) {
            return letters < 0 ? NOT : letters;
        }
        return k < letters ? bringing.writerOfStep(letters, k) : NOT;
    }

    // ---- whose

    public int whose(int shelf, int machine) {
        if (!now.has(machine)) {
            return BAD;
        }
        int refused = rowRefusal(shelf, BYTES);
        return refused != 0 ? refused : writersFor(shelves[shelf], machine);
    }

    public int where(int shelf, int writer) {
        if (!writers.has(writer)) {
            return BAD;
        }
        int refused = rowRefusal(shelf, BYTES);
        if (refused != 0) {
            return refused;
        }
        int bits = 0;
        for (int machine = 0; machine < now.size; machine++) {
            if (fits(shelves[shelf], now, writer, machine)) {
                bits |= 1 << machine;
            }
        }
        return bits;
    }

    public int pairs(int shelf, int what) {
        if (what < 0 || what > 1) {
            return BAD;
        }
        int refused = rowRefusal(shelf, BYTES);
        if (refused != 0) {
            return refused;
        }
        int all = 0;
        int some = 0;
        for (int machine = 0; machine < now.size; machine++) {
            int bits = writersFor(shelves[shelf], machine);
            all += Integer.bitCount(bits);
            some |= bits;
        }
        if (what == 0) {
            return all;
        }
        return Integer.bitCount(some) == 1 ? Integer.numberOfTrailingZeros(some) : NOT;
    }

    public int between(int shelf, int wm, int other) {
        if (!isPair(wm) || !writers.has(other)) {
            return BAD;
        }
        int refused = rowRefusal(shelf, BYTES);
        if (refused != 0) {
            return refused;
        }
        thought.copy(now);
        for (int letters = 0; letters <= BETWEEN_MOST; letters++) {
            if (fits(shelves[shelf], thought, other, wm % 10)) {
                return letters;
            }
            pass(thought, wm / 10, wm % 10);
        }
        return NOT;
    }

    public int judge(int shelf) {
        int refused = rowRefusal(shelf, SHORTS);
        return refused != 0 ? refused : firstWrong(shelves[shelf], now.ribbon, -1, -1);
    }

    public int falseOne(int shelf, int k) {
        if (k < 0) {
            return BAD;
        }
        int refused = rowRefusal(shelf, SHORTS);
        if (refused != 0) {
            return refused;
        }
        Shelf book = shelves[shelf];
        // Elements behind the last whole three are none, though judge() tells their place.
        if (k >= book.size / 3) {
            return NOT;
        }
        int bits = 0;
        for (int writer = 0; writer < writers.size; writer++) {
            if (writer != book.cells[3 * k] && firstWrong(book, now.ribbon, k, writer) == NOT) {
                bits |= 1 << writer;
            }
        }
        return bits;
    }

    public int ribbons(int shelf, int what) {
        if (what < 0 || what > 1) {
            return BAD;
        }
        int refused = rowRefusal(shelf, SHORTS);
        if (refused != 0) {
            return refused;
        }
        int many = 0;
        int least = NOT;
        for (int ribbon = Machines.RIBBON_TOP; ribbon >= 0; ribbon--) {
            if (firstWrong(shelves[shelf], ribbon, -1, -1) == NOT) {
                many++;
                least = ribbon;
            }
        }
        return what == 0 ? many : least;
    }

    public int morning(int machine, int n, int habit) {
        if (!now.has(machine) || n < 0 || n > NIGHTS_MOST || habit < 0 || habit >= Codes.HABITS) {
            return BAD;
        }
        thought.copy(now);
        for (int night = 0; night < n; night++) {
            thought.passNight();
        }
        return thought.pull(machine, habit);
    }

    public int alike() {
        thought.copy(now);
        for (int nights = 0; nights <= WAIT_MOST; nights++) {
            if (thought.areAllAlike()) {
                return nights;
            }
            thought.passNight();
        }
        return NOT;
    }

    public int price(int machine) {
        return now.has(machine) ? pence(machine) : BAD;
    }

    public int buy(int v, int what) {
        if (v < 0 || v > 999 || what < 0 || what > 1) {
            return BAD;
        }
        for (int machine = 0; machine < now.size; machine++) {
            prices[machine] = pence(machine);
        }
        int best = 0;
        int bestPence = 0;
        for (int bits = 1; bits < 1 << now.size; bits++) {
            int all = penceOf(bits);
            int more = Integer.bitCount(bits) - Integer.bitCount(best);
            if (all <= v && (more > 0 || more == 0 && all < bestPence)) {
                best = bits;
                bestPence = all;
            }
        }
        return what == 0 ? Integer.bitCount(best) : best;
    }

    public int drawn(int seed, int nm, int machine) {
        int days = nm / 100;
        int letters = nm % 100;
        if (days < 1 || days > DAY_MOST || letters < 1 || letters > DAY_MOST || machine != -1 && !now.has(machine)) {
            return BAD;
        }
        if (writers.size == 0 || now.size == 0) {
            return 0;
        }
        int z = seed;
        int far = 0;
        int often = 0;
        for (int day = 0; day < days; day++) {
            // Each of the days starts from now; only the draws go on.
            thought.copy(now);
            for (int i = 0; i < letters; i++) {
                z = z * 1103515245 + 12345;
                int on = (z >>> 16) % now.size;
                pass(thought, (z >>> 8) % writers.size, on);
                often += on == machine ? 1 : 0;
            }
            far += allApart(thought);
        }
        return machine == -1 ? far : often;
    }

    // ---- in deed

    public int types(int wm) {
        if (!isPair(wm)) {
            return BAD;
        }
        int code = shownCode(now, wm / 10, wm % 10);
        pass(now, wm / 10, wm % 10);
        ledger.letters++;
        ledger.showed += Codes.sum(code);
        ledger.latest = wm % 10;
        return code;
    }

    public int clean(int machine) {
        if (!now.has(machine)) {
            return BAD;
        }
        int age = now.ages[machine];
        now.setNew(machine, 6, 6, 6);
        ledger.cleanings++;
        return age;
    }

    public int learn(int wm) {
        if (!isPair(wm)) {
            return BAD;
        }
        int writer = wm / 10;
        for (int habit = 0; habit < Codes.HABITS; habit++) {
            int hand = Codes.nearer(writers.hand(writer, habit), now.pull(wm % 10, habit));
            writers.hands[Codes.HABITS * writer + habit] = hand;
        }
        ledger.learnings++;
        return writers.handCode(writer);
    }

    public int led(int what) {
        switch (what) {
            case 0: return ledger.letters;
            case 1: return ledger.cleanings;
            case 2: return ledger.learnings;
            case 3: return ledger.showed;
            case 4: return ledger.latest;
            default: return BAD;
        }
    }

    public int image() {
        keptMachines.copy(now);
        keptWriters.copy(writers);
        keptLedger.copy(ledger);
        imageKept = true;
        return ledger.letters;
    }

    public int back() {
        if (!imageKept) {
            return STATE;
        }
        now.layBack(keptMachines);
        writers.layBack(keptWriters);
        ledger.copy(keptLedger);
        return ledger.letters;
    }

    public int undo() {
        if (changes.done == 0) {
            return STATE;
        }
        changes.done--;
        int i = changes.done;
        setValue(changes.numbers[i], changes.whats[i], changes.olds[i]);
        return changes.done;
    }

    public int redo() {
        if (changes.done >= changes.kept) {
            return STATE;
        }
        int i = changes.done;
        setValue(changes.numbers[i], changes.whats[i], changes.news[i]);
        changes.done++;
        return changes.kept - changes.done;
    }

    // ---- acts, shelves

    public int body(int kind) {
        if (kind < 0 || kind >= Ghosts.KINDS) {
            return BAD;
        }
        return ghosts.isFull() ? FULL : ghosts.join(kind);
    }

    public int act(int body, int act, int x) {
        ghosts.ran = 0;
        if (!ghosts.has(body) || act < 0 || act >= Ghosts.ACTS) {
            return 0;
        }
        return ghosts.perform(body, ghosts.kinds[body], act, x, 0);
    }

    public int trace(int i) {
        return i >= 0 && i < ghosts.ran && i < Ghosts.TRACE_MOST ? ghosts.traced[i] : BAD;
    }

    public int keep(int shelf, int body) {
        if (!isShelf(shelf) || body != -1 && !ghosts.has(body)) {
            return BAD;
        }
        shelves[shelf].holdGhost(body);
        return 1;
    }

    public int row(int shelf, int sort, int n) {
        if (!isShelf(shelf) || sort < 0 || sort >= Shelf.SORTS || n > Shelf.MOST) {
            return BAD;
        }
        if (n < 0) {
            return BELOW_ZERO;
        }
        shelves[shelf].holdRow(sort, n);
        return 1;
    }

    public int put(int shelf, int i, long v) {
        int refused = cellRefusal(shelf, i);
        if (refused != 0) {
            return refused;
        }
        shelves[shelf].cells[i] = shelves[shelf].lowest(v);
        return 1;
    }

    public long element(int shelf, int i) {
        return cellRefusal(shelf, i) == 0 ? shelves[shelf].cells[i] : Long.MIN_VALUE;
    }

    public int shift(int shelf, int i, int other, int j, int n) {
        if (!isShelf(shelf) || !isShelf(other)) {
            return BAD;
        }
        Shelf from = shelves[shelf];
        Shelf to = shelves[other];
        if (from.isEmpty() || to.isEmpty()) {
            return NOTHING_THERE;
        }
        if (!from.isRow() || !to.isRowOf(from.sort)) {
            return OTHER_KIND;
        }
        if (!from.hasSpan(i, n) || !to.hasSpan(j, n)) {
            return NO_PLACE;
        }
        System.arraycopy(from.cells, i, to.cells, j, n);
        return n;
    }

    public int taken(int shelf, int k) {
        if (!isShelf(shelf) || k < 0 || k >= Ghosts.KINDS) {
            return BAD;
        }
        Shelf held = shelves[shelf];
        if (held.isEmpty()) {
            return NOTHING_THERE;
        }
        if (held.isRow() || !ghosts.has(held.ghost) || !Ghosts.isUnder(ghosts.kinds[held.ghost], k)) {
            return OTHER_KIND;
        }
        return ghosts.kinds[held.ghost];
    }

    public int count(int what) {
        switch (what) {
            case 0: return now.size;
            case 1: return writers.size;
            case 2: return tape.size;
            case 3: return changes.done;
            case 4: return ghosts.size;
            case 5: return ghosts.ran;
            default: return BAD;
        }
    }

    // ---- what the calls share

    private static boolean isShelf(int shelf) {
        return shelf >= 0 && shelf < SHELVES;
    }

    private boolean isPair(int wm) {
        return wm >= 0 && writers.has(wm / 10) && now.has(wm % 10);
    }

    /** 0, or why a SHELF has no ROW of a sort. */
    private int rowRefusal(int shelf, int sort) {
        if (!isShelf(shelf)) {
            return BAD;
        }
        if (shelves[shelf].isEmpty()) {
            return NOTHING_THERE;
        }
        return shelves[shelf].isRowOf(sort) ? 0 : OTHER_KIND;
    }

    /** 0, or why a SHELF has no ROW with a place i. */
    private int cellRefusal(int shelf, int i) {
        if (!isShelf(shelf)) {
            return BAD;
        }
        if (shelves[shelf].isEmpty()) {
            return NOTHING_THERE;
        }
        if (!shelves[shelf].isRow()) {
            return OTHER_KIND;
        }
        return i >= 0 && i < shelves[shelf].size ? 0 : NO_PLACE;
    }

    private static boolean pullsStandAt(Shelf from, int at) {
        if (!from.hasSpan(at, Codes.HABITS)) {
            return false;
        }
        for (int i = at; i < at + Codes.HABITS; i++) {
            if (from.cells[i] < 0 || from.cells[i] > Codes.TOP) {
                return false;
            }
        }
        return true;
    }

    /** The numbers of mend(): whether there is one of that sort. */
    private boolean isNumberOf(int number, int what) {
        if (what >= 0 && what <= 3) {
            return now.has(number);
        }
        if (what >= 4 && what <= 7) {
            return writers.has(number);
        }
        return what == 8 && number == 0;
    }

    private static int topOf(int what) {
        if (what == 3) {
            return Machines.AGE_TOP;
        }
        return what == 8 ? Machines.RIBBON_TOP : Codes.TOP;
    }

    private int valueOf(int number, int what) {
        switch (what) {
            case 3: return now.ages[number];
            case 7: return writers.touches[number];
            case 8: return now.ribbon;
            default: return what < 3 ? now.pull(number, what) : writers.hand(number, what - 4);
        }
    }

    private void setValue(int number, int what, int v) {
        if (what < 3) {
            now.pulls[Codes.HABITS * number + what] = v;
        } else if (what == 3) {
            now.ages[number] = v;
        } else if (what < 7) {
            writers.hands[Codes.HABITS * number + what - 4] = v;
        } else if (what == 7) {
            writers.touches[number] = v;
        } else {
            now.ribbon = v;
        }
    }

    private int gripOf(Machines at, int writer, int machine, int habit) {
        grips.age = at.ages[machine];
        grips.touch = writers.touches[writer];
        grips.habit = habit;
        grips.unlike = Math.abs(writers.hand(writer, habit) - at.pull(machine, habit));
        grips.ribbon = at.ribbon;
        grips.machine = machine;
        int free = grips.told ? grips.value() : 6 + grips.age / 10 - grips.touch / 3;
        return Math.max(0, Math.min(Codes.TOP, free));
    }

    private int shown(Machines at, int writer, int machine, int habit) {
        int grip = gripOf(at, writer, machine, habit);
        return (writers.hand(writer, habit) * (Codes.TOP - grip) + at.pull(machine, habit) * grip) / Codes.TOP;
    }

    private int shownCode(Machines at, int writer, int machine) {
        return Codes.code(shown(at, writer, machine, 0), shown(at, writer, machine, 1), shown(at, writer, machine, 2));
    }

    /** What a LETTER leaves behind on its MACHINE. */
    private void pass(Machines at, int writer, int machine) {
        for (int habit = 0; habit < Codes.HABITS; habit++) {
            int pull = Codes.nearer(at.pull(machine, habit), writers.hand(writer, habit));
            at.pulls[Codes.HABITS * machine + habit] = pull;
        }
        at.ages[machine] = Math.min(at.ages[machine] + 1, Machines.AGE_TOP);
    }

    private boolean dayHas(Shelf day, int k) {
        return day.hasSpan(2 * k, 2) && writers.has((int) day.cells[2 * k]) && now.has((int) day.cells[2 * k + 1]);
    }

    /** The first LETTERS of a DAY in thought, from now: how many there were. */
    private int thinkDay(Shelf day, int most) {
        thought.copy(now);
        int letters = 0;
        while (letters < most && dayHas(day, letters)) {
            pass(thought, (int) day.cells[2 * letters], (int) day.cells[2 * letters + 1]);
            letters++;
        }
        return letters;
    }

    /** One more round of a DAY in thought: whether a PULL is another one behind it. */
    private boolean playRound(Shelf day) {
        thought.markPulls();
        for (int k = 0; k < DAY_MOST && dayHas(day, k); k++) {
            pass(thought, (int) day.cells[2 * k], (int) day.cells[2 * k + 1]);
        }
        return thought.haveMoved();
    }

    private int apart(Machines at, int writer, int machine) {
        int all = 0;
        for (int habit = 0; habit < Codes.HABITS; habit++) {
            all += Math.abs(writers.hand(writer, habit) - at.pull(machine, habit));
        }
        return all;
    }

    private int allApart(Machines at) {
        int all = 0;
        for (int writer = 0; writer < writers.size; writer++) {
            for (int machine = 0; machine < at.size; machine++) {
                all += apart(at, writer, machine);
            }
        }
        return all;
    }

    private int nearestMachine(int writer) {
        int best = NOT;
        for (int machine = 0; machine < now.size; machine++) {
            if (best < 0 || apart(now, writer, machine) < apart(now, writer, best)) {
                best = machine;
            }
        }
        return best;
    }

    private int nearestWriter(int machine) {
        int best = NOT;
        for (int writer = 0; writer < writers.size; writer++) {
            if (best < 0 || apart(now, writer, machine) < apart(now, best, machine)) {
                best = writer;
            }
        }
        return best;
    }

    /** For each set of MACHINES that the first WRITERS have: the least FAR of all WRITERS behind them. */
    private void fillGivenRest() {
        for (int taken = (1 << now.size) - 1; taken >= 0; taken--) {
            int writer = Integer.bitCount(taken);
            givenRest[taken] = 0;
            if (writer < writers.size) {
                int machine = givenTo(writer, taken);
                givenRest[taken] = apart(now, writer, machine) + givenRest[taken | 1 << machine];
            }
        }
    }

    private int givenTo(int writer, int taken) {
        int best = 0;
        int least = Integer.MAX_VALUE;
        for (int machine = 0; machine < now.size; machine++) {
            if ((taken & 1 << machine) == 0) {
                int far = apart(now, writer, machine) + givenRest[taken | 1 << machine];
                if (far < least) {
                    least = far;
                    best = machine;
                }
            }
        }
        return best;
    }

    private boolean fits(Shelf sheet, Machines at, int writer, int machine) {
        for (int habit = 0; habit < Codes.HABITS && habit < sheet.size; habit++) {
            if (sheet.cells[habit] != shown(at, writer, machine, habit)) {
                return false;
            }
        }
        return true;
    }

    private int writersFor(Shelf sheet, int machine) {
        int bits = 0;
        for (int writer = 0; writer < writers.size; writer++) {
            if (fits(sheet, now, writer, machine)) {
                bits |= 1 << writer;
            }
        }
        return bits;
    }

    /** The first three of a BOOK that is not so by a RIBBON, with another WRITER in its k-th three (k -1: none). */
    private int firstWrong(Shelf book, int ribbon, int k, int instead) {
        thought.copy(now);
        thought.ribbon = ribbon;
        for (int three = 0; 3 * three < book.size; three++) {
            if (!book.hasSpan(3 * three, 3)) {
                return three;
            }
            int writer = three == k ? instead : (int) book.cells[3 * three];
            int machine = (int) book.cells[3 * three + 1];
            if (!writers.has(writer) || !now.has(machine)
                    || shownCode(thought, writer, machine) != book.cells[3 * three + 2]) {
                return three;
            }
            pass(thought, writer, machine);
        }
        return NOT;
    }

    private int pence(int machine) {
        int writer = nearestWriter(machine);
        int less = writer < 0 ? 50 : 3 * apart(now, writer, machine);
        return Math.max(0, 100 - less - now.ages[machine] / 2);
    }

    private int penceOf(int bits) {
        int all = 0;
        for (int machine = 0; machine < now.size; machine++) {
            if ((bits & 1 << machine) != 0) {
                all += prices[machine];
            }
        }
        return all;
    }

    /** Three numbers 0 .. 12, one a HABIT, as one. */
    static final class Codes {
        static final int HABITS = 3, TOP = 12, MANY = 2197;

        static boolean isCode(int code) {
            return code >= 0 && code < MANY;
        }

        static int code(int first, int second, int third) {
            return 169 * first + 13 * second + third;
        }

        static int part(int code, int habit) {
            if (habit == 0) {
                return code / 169;
            }
            return habit == 1 ? code / 13 % 13 : code % 13;
        }

        static int sum(int code) {
            return part(code, 0) + part(code, 1) + part(code, 2);
        }

        static int nearer(int from, int to) {
            if (from < to) {
                return from + 1;
            }
            return from > to ? from - 1 : from;
        }
    }

    /** The MACHINES and their RIBBON, as they stand or in thought. */
    static final class Machines {
        static final int MOST = 8, AGE_TOP = 99, RIBBON_TOP = 9;

        final int[] pulls = new int[Codes.HABITS * MOST];
        final int[] marks = new int[Codes.HABITS * MOST];
        final int[] ages = new int[MOST];
        int size;
        int ribbon = 5;

        boolean has(int machine) {
            return machine >= 0 && machine < size;
        }

        boolean isFull() {
            return size >= MOST;
        }

        int join(int first, int second, int third) {
            size++;
            setNew(size - 1, first, second, third);
            return size - 1;
        }

        void setNew(int machine, int first, int second, int third) {
            pulls[Codes.HABITS * machine] = first;
            pulls[Codes.HABITS * machine + 1] = second;
            pulls[Codes.HABITS * machine + 2] = third;
            ages[machine] = 0;
        }

        int pull(int machine, int habit) {
            return pulls[Codes.HABITS * machine + habit];
        }

        int pullCode(int machine) {
            return Codes.code(pull(machine, 0), pull(machine, 1), pull(machine, 2));
        }

        void copy(Machines other) {
            layBack(other);
            size = other.size;
            ribbon = other.ribbon;
        }

        /** MACHINES that the other one has not, and the RIBBON, stay as they are. */
        void layBack(Machines other) {
            System.arraycopy(other.pulls, 0, pulls, 0, Codes.HABITS * other.size);
            System.arraycopy(other.ages, 0, ages, 0, other.size);
        }

        void markPulls() {
            System.arraycopy(pulls, 0, marks, 0, Codes.HABITS * size);
        }

        boolean haveMoved() {
            for (int i = 0; i < Codes.HABITS * size; i++) {
                if (pulls[i] != marks[i]) {
                    return true;
                }
            }
            return false;
        }

        /** All PULLS go by those of the evening before, so these are marked first. */
        void passNight() {
            markPulls();
            int all = Codes.HABITS * size;
            for (int i = 0; i < all; i++) {
                int beside = i + Codes.HABITS < all ? i + Codes.HABITS : i + Codes.HABITS - all;
                pulls[i] = Codes.nearer(marks[i], marks[beside]);
            }
        }

        boolean areAllAlike() {
            for (int i = Codes.HABITS; i < Codes.HABITS * size; i++) {
                if (pulls[i] != pulls[i - Codes.HABITS]) {
                    return false;
                }
            }
            return true;
        }
    }

    static final class Writers {
        static final int MOST = 8;

        final int[] hands = new int[Codes.HABITS * MOST];
        final int[] touches = new int[MOST];
        int size;

        boolean has(int writer) {
            return writer >= 0 && writer < size;
        }

        boolean isFull() {
            return size >= MOST;
        }

        int join(int code) {
            for (int habit = 0; habit < Codes.HABITS; habit++) {
                hands[Codes.HABITS * size + habit] = Codes.part(code, habit);
            }
            touches[size] = 6;
            size++;
            return size - 1;
        }

        int hand(int writer, int habit) {
            return hands[Codes.HABITS * writer + habit];
        }

        int handCode(int writer) {
            return Codes.code(hand(writer, 0), hand(writer, 1), hand(writer, 2));
        }

        void copy(Writers other) {
            layBack(other);
            size = other.size;
        }

        /** An image has HANDS alone; TOUCHES, and WRITERS that came since, stay as they are. */
        void layBack(Writers other) {
            System.arraycopy(other.hands, 0, hands, 0, Codes.HABITS * other.size);
        }
    }

    /** What LED tells. */
    static final class Ledger {
        int letters;
        int cleanings;
        int learnings;
        int showed;
        int latest = NOT;

        void copy(Ledger other) {
            letters = other.letters;
            cleanings = other.cleanings;
            learnings = other.learnings;
            showed = other.showed;
            latest = other.latest;
        }
    }

    /** Numbers told by mend(): the first `done` of those kept may be undone, the others done again. */
    static final class Changes {
        static final int MOST = 40;

        final int[] numbers = new int[MOST];
        final int[] whats = new int[MOST];
        final int[] olds = new int[MOST];
        final int[] news = new int[MOST];
        int done;
        int kept;

        void add(int number, int what, int old, int fresh) {
            if (done >= MOST) {
                dropOldest();
            }
            numbers[done] = number;
            whats[done] = what;
            olds[done] = old;
            news[done] = fresh;
            done++;
            kept = done;
        }

        void dropOldest() {
            System.arraycopy(numbers, 1, numbers, 0, MOST - 1);
            System.arraycopy(whats, 1, whats, 0, MOST - 1);
            System.arraycopy(olds, 1, olds, 0, MOST - 1);
            System.arraycopy(news, 1, news, 0, MOST - 1);
            done = MOST - 1;
        }
    }

    /** The fewest LETTERS from PULLS to PULLS: a search in breadth over all codes. */
    static final class Bringing {
        static final int UNSEEN = -1;

        /** For each code: 8 times the code ahead of it, and the WRITER between. */
        final int[] ways = new int[Codes.MANY];
        final int[] queue = new int[Codes.MANY];
        int goal;

        /** How many LETTERS, or -1. WRITERS are tried by number, so the first way found is the first by numbers. */
        int fewest(int start, int end, Writers writers) {
            Arrays.fill(ways, UNSEEN);
            goal = end;
            queue[0] = start;
            ways[start] = 8 * start;
            int waiting = 1;
            for (int i = 0; i < Codes.MANY && i < waiting && ways[end] == UNSEEN; i++) {
                for (int writer = 0; writer < writers.size; writer++) {
                    int next = typed(queue[i], writers, writer);
                    if (ways[next] == UNSEEN && waiting < Codes.MANY) {
                        ways[next] = 8 * queue[i] + writer;
                        queue[waiting] = next;
                        waiting++;
                    }
                }
            }
            return ways[end] == UNSEEN ? -1 : wayLength(start);
        }

        static int typed(int code, Writers writers, int writer) {
            int first = Codes.nearer(Codes.part(code, 0), writers.hand(writer, 0));
            int second = Codes.nearer(Codes.part(code, 1), writers.hand(writer, 1));
            int third = Codes.nearer(Codes.part(code, 2), writers.hand(writer, 2));
            return Codes.code(first, second, third);
        }

        int wayLength(int start) {
            int steps = 0;
            for (int code = goal; code != start && steps < Codes.MANY; code = ways[code] / 8) {
                steps++;
            }
            return steps;
        }

        /** Who types the k-th LETTER of the way found, which is walked from its end. */
        int writerOfStep(int letters, int k) {
            int code = goal;
            for (int step = letters - 1; step > k; step--) {
                code = ways[code] / 8;
            }
            return ways[code] % 8;
        }
    }

    /** What a SHELF holds: nothing, a GHOST or a ROW, whose room is used again by the next one. */
    static final class Shelf {
        static final int MOST = 60, SORTS = 5;
        static final int NO_ROW = -1, NO_GHOST = -1;

        final long[] cells = new long[MOST];
        int sort = NO_ROW;
        int size;
        int ghost = NO_GHOST;

        boolean isRow() {
            return sort != NO_ROW;
        }

        boolean isRowOf(int wanted) {
            return sort == wanted;
        }

        boolean isEmpty() {
            return sort == NO_ROW && ghost == NO_GHOST;
        }

        void holdGhost(int body) {
            sort = NO_ROW;
            size = 0;
            ghost = body;
        }

        void holdRow(int newSort, int newSize) {
            Arrays.fill(cells, 0L);
            sort = newSort;
            size = newSize;
            ghost = NO_GHOST;
        }

        boolean hasSpan(int from, int many) {
            return from >= 0 && many >= 0 && many <= size && from <= size - many;
        }

        long lowest(long v) {
            switch (sort) {
                case 0: return (byte) v;
                case 1: return (short) v;
                case 2: return (int) v;
                case 3: return v;
                default: return v != 0 ? 1 : 0;
            }
        }
    }

    /** GHOSTS, their KINDS and what ran in the latest act. */
    static final class Ghosts {
        static final int MOST = 50, KINDS = 8, ACTS = 4, TRACE_MOST = 24, DEEPEST = 40;
        static final int TYPES = 0, STICKS = 1, RINGS = 2, TELLS = 3;
        private static final int[] ABOVE = {-1, 0, 0, 2, 1, 3, 0, 4};
        /** By KIND and ACT: the body of its own, or 0; GHOST has those of its interfaces, too. */
        private static final int[] OWN = {
            1, 10, 11, 2,
            20, 0, 0, 0,
            0, 30, 0, 0,
            0, 41, 40, 0,
            0, 0, 50, 0,
            0, 0, 0, 60,
            70, 0, 0, 0,
            0, 80, 0, 81};

        final int[] kinds = new int[MOST];
        final int[] traced = new int[TRACE_MOST];
        int size;
        int ran;

        boolean has(int body) {
            return body >= 0 && body < size;
        }

        boolean isFull() {
            return size >= MOST;
        }

        int join(int kind) {
            kinds[size] = kind;
            size++;
            return size - 1;
        }

        static boolean isUnder(int kind, int upper) {
            int at = kind;
            for (int step = 0; step < KINDS && at >= 0; step++) {
                if (at == upper) {
                    return true;
                }
                at = ABOVE[at];
            }
            return false;
        }

        void note(int number) {
            if (ran < TRACE_MOST) {
                traced[ran] = number;
            }
            ran++;
        }

        /** An ACT by the body of a KIND, or of the next KIND above that has one. */
        private int perform(int n, int from, int act, int x, int depth) {
            int kind = from;
            for (int step = 0; step < KINDS && kind >= 0 && OWN[ACTS * kind + act] == 0; step++) {
                kind = ABOVE[kind];
            }
            if (kind < 0 || depth > DEEPEST) {
                return 0;
            }
            int number = OWN[ACTS * kind + act];
            note(number);
            return kind == 0 ? runGhost(number, n, x, depth) : runUnder(number, n, x, depth, ABOVE[kind]);
        }

        /** An ACT by the body of its own KIND. */
        private int own(int n, int act, int x, int depth) {
            return perform(n, kinds[n], act, x, depth + 1);
        }

        private int runGhost(int number, int n, int x, int depth) {
            switch (number) {
                case 1: return x + n;
                case 2: return own(n, STICKS, x, depth) - own(n, RINGS, 1, depth);
                case 10: return own(n, TYPES, x, depth) * 2;
                default: return x ^ n;
            }
        }

        private int runUnder(int number, int n, int x, int depth, int above) {
            switch (number) {
                case 20: return perform(n, above, TYPES, x, depth + 1) + 3;
                case 30: return -perform(n, above, STICKS, x, depth + 1);
                case 40: return perform(n, above, RINGS, x, depth + 1) * 3;
                case 41: return perform(n, above, STICKS, x + 1, depth + 1);
                case 50: return perform(n, above, RINGS, x, depth + 1) - own(n, TYPES, 2, depth);
                case 60: return perform(n, above, TELLS, x, depth + 1) ^ 5;
                case 70: return perform(n, above, TYPES, x, depth + 1) * 2;
                case 80: return perform(n, above, STICKS, x, depth + 1) + own(n, RINGS, 2, depth);
                default: return perform(n, above, TELLS, x, depth + 1) - 1;
            }
        }
    }

    /** THE TAPE, and its reading into steps: operands first, then their sign. */
    static final class Tape {
        static final int MOST = 120, OPEN_MOST = 6, DIGITS_MOST = 4;
        /** Each byte gives one step at most (a ; that of its line), and the last line's end one more. */
        static final int STEPS_MOST = MOST + 1;
        /** A step from 0 on is a number; a NAME and a sign are their byte below 0. */
        static final int NEGATE = -1, COUNTS = -2, CHOOSES = -3;
        static final int EITHER = 0, BOTH = 1, COMPARED = 2, SUM = 3, PRODUCT = 4, OPERAND = 5;

        final int[] bytes = new int[MOST];
        int size;
        final int[] steps = new int[STEPS_MOST];
        int stepsSize;
        int at;

        boolean isFull() {
            return size >= MOST;
        }

        int addByte(int letter) {
            bytes[size] = letter;
            size++;
            return size;
        }

        /** Whether it is a TEXT; if not, `at` is the FAULT. */
        boolean read() {
            at = 0;
            stepsSize = 0;
            for (int line = 0; line <= size; line++) {
                if (!readLine()) {
                    return false;
                }
                if (!takes(';')) {
                    return at == size;
                }
            }
            return false;
        }

        boolean readLine() {
            if (!readLevel(EITHER, 0)) {
                return false;
            }
            if (!takes('?')) {
                addStep(COUNTS);
                return true;
            }
            if (!readLevel(EITHER, 0)) {
                return false;
            }
            addStep(CHOOSES);
            return true;
        }

        /** E, A, B, S, P and O are levels; `open` is how many of ( ! - stand open. */
        private boolean readLevel(int level, int open) {
            if (level >= OPERAND) {
                return readOperand(open);
            }
            if (!readLevel(level + 1, open)) {
                return false;
            }
            int most = level == COMPARED ? 1 : size;
            for (int more = 0; more < most && levelOf(next()) == level; more++) {
                int sign = next();
                at++;
                if (!readLevel(level + 1, open)) {
                    return false;
                }
                addStep(-sign);
            }
            return true;
        }

        private boolean readOperand(int open) {
            int first = next();
            if (isDigit(first)) {
                readNumber();
                return true;
            }
            if (isName(first)) {
                at++;
                addStep(-first);
                return true;
            }
            if (open >= OPEN_MOST || first != '(' && first != '!' && first != '-') {
                return false;
            }
            at++;
            if (first == '(') {
                return readLevel(EITHER, open + 1) && takes(')');
            }
            if (!readOperand(open + 1)) {
                return false;
            }
            addStep(first == '-' ? NEGATE : -first);
            return true;
        }

        void readNumber() {
            int number = 0;
            for (int digits = 0; digits < DIGITS_MOST && isDigit(next()); digits++) {
                number = 10 * number + next() - '0';
                at++;
            }
            addStep(number);
        }

        /** -1 behind the end. */
        int next() {
            return at < size ? bytes[at] : -1;
        }

        boolean takes(int sign) {
            if (next() != sign) {
                return false;
            }
            at++;
            return true;
        }

        void addStep(int step) {
            if (stepsSize < STEPS_MOST) {
                steps[stepsSize] = step;
                stepsSize++;
            }
        }

        static boolean isDigit(int letter) {
            return letter >= '0' && letter <= '9';
        }

        static boolean isName(int letter) {
            return letter == 'a' || letter == 't' || letter == 'h' || letter == 'd' || letter == 'r' || letter == 'm';
        }

        static int levelOf(int sign) {
            switch (sign) {
                case '|': return EITHER;
                case '&': return BOTH;
                case '<':
                case '=':
                case '>': return COMPARED;
                case '+':
                case '-': return SUM;
                case '*':
                case '/':
                case '%': return PRODUCT;
                default: return -1;
            }
        }
    }

    /** THE LAW: steps over a stack, and what the NAMES stand for. */
    static final class Law {
        /** Of 120 bytes each second one can be an operand. */
        static final int STACK_MOST = 64;

        final int[] steps = new int[Tape.STEPS_MOST];
        int stepsSize;
        boolean told;
        final int[] stack = new int[STACK_MOST];
        int age;
        int touch;
        int habit;
        int unlike;
        int ribbon;
        int machine;

        void become(Tape tape) {
            System.arraycopy(tape.steps, 0, steps, 0, tape.stepsSize);
            stepsSize = tape.stepsSize;
            told = true;
        }

        /** The value of the first LINE that counts. */
        int value() {
            int height = 0;
            for (int i = 0; i < stepsSize; i++) {
                int step = steps[i];
                int wanted = operandsOf(step);
                if (height < wanted || height >= STACK_MOST) {
                    return 0;
                }
                int right = wanted > 0 ? stack[height - 1] : 0;
                int left = wanted > 1 ? stack[height - 2] : 0;
                height -= wanted;
                if (step == Tape.COUNTS || step == Tape.CHOOSES && left != 0) {
                    return right;
                }
                if (step != Tape.CHOOSES) {
                    stack[height] = valueOfStep(step, left, right);
                    height++;
                }
            }
            return 0;
        }

        static int operandsOf(int step) {
            if (step >= 0 || Tape.isName(-step)) {
                return 0;
            }
            return step == Tape.NEGATE || step == -'!' || step == Tape.COUNTS ? 1 : 2;
        }

        int valueOfStep(int step, int left, int right) {
            if (step >= 0) {
                return step;
            }
            switch (-step) {
                case 'a': return age;
                case 't': return touch;
                case 'h': return habit;
                case 'd': return unlike;
                case 'r': return ribbon;
                case 'm': return machine;
                case -Tape.NEGATE: return -right;
                case '!': return right == 0 ? 1 : 0;
                case '|': return left != 0 || right != 0 ? 1 : 0;
                case '&': return left != 0 && right != 0 ? 1 : 0;
                case '<': return left < right ? 1 : 0;
                case '=': return left == right ? 1 : 0;
                case '>': return left > right ? 1 : 0;
                case '+': return left + right;
                case '-': return left - right;
                case '*': return left * right;
                case '/': return right == 0 ? 0 : left / right;
                default: return right == 0 ? 0 : left % right;
            }
        }
    }
}
