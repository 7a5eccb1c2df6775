import java.util.Random;

/** Promises 9 to 11, 13, 14, 16, 18 to 24, 29, 30, 32 on random agencies, against a plain model of letters. */
public final class ModelTest {
    private static final String[] LAWS = {null, "r", "a%13", "d+h", "t>5?m+2;12-d", "(a+r)%13"};
    private static int wrong = 0;
    private static Random random = new Random(47);
    private static int law;
    private static int ribbon;
    private static int[][] pulls;
    private static int[] ages;
    private static int[][] hands;
    private static int[] touches;

    private static void due(String what, long got, long want) {
        if (got != want) {
            wrong++;
            if (wrong < 40) {
                System.out.println(what + " answered " + got + ", due is " + want);
            }
        }
    }

    private static int code(int[] parts) {
        return 169 * parts[0] + 13 * parts[1] + parts[2];
    }

    private static int grip(int w, int m, int h) {
        int a = ages[m];
        int t = touches[w];
        int d = Math.abs(hands[w][h] - pulls[m][h]);
        int[] free = {6 + a / 10 - t / 3, ribbon, a % 13, d + h, t > 5 ? m + 2 : 12 - d, (a + ribbon) % 13};
        return Math.max(0, Math.min(12, free[law]));
    }

    private static int[] show(int w, int m) {
        int[] all = new int[3];
        for (int h = 0; h < 3; h++) {
            int grip = grip(w, m, h);
            all[h] = (hands[w][h] * (12 - grip) + pulls[m][h] * grip) / 12;
        }
        return all;
    }

    private static int[] type(int w, int m) {
        int[] shown = show(w, m);
        for (int h = 0; h < 3; h++) {
            pulls[m][h] += Integer.signum(hands[w][h] - pulls[m][h]);
        }
        ages[m] = Math.min(99, ages[m] + 1);
        return shown;
    }

    private static int far(int w, int m) {
        int all = 0;
        for (int h = 0; h < 3; h++) {
            all += Math.abs(hands[w][h] - pulls[m][h]);
        }
        return all;
    }

    private static int[][] keepPulls() {
        int[][] kept = new int[pulls.length][];
        for (int m = 0; m < pulls.length; m++) {
            kept[m] = pulls[m].clone();
        }
        return kept;
    }

    private static TypewritersKnow agency() {
        TypewritersKnow x = new TypewritersKnow();
        int machines = 1 + random.nextInt(8);
        int writers = 1 + random.nextInt(8);
        int span = random.nextBoolean() ? 4 : 13;
        pulls = new int[machines][3];
        ages = new int[machines];
        hands = new int[writers][3];
        touches = new int[writers];
        x.row(5, 0, 3 * machines);
        for (int m = 0; m < machines; m++) {
            for (int h = 0; h < 3; h++) {
                pulls[m][h] = random.nextInt(span);
                x.put(5, 3 * m + h, pulls[m][h]);
            }
        }
        due("machines", x.machines(5, 0, machines), machines);
        for (int m = 0; m < machines; m++) {
            ages[m] = random.nextInt(4) == 0 ? random.nextInt(100) : 0;
            x.mend(m, 3, ages[m]);
        }
        for (int w = 0; w < writers; w++) {
            for (int h = 0; h < 3; h++) {
                hands[w][h] = random.nextInt(span);
            }
            due("writer", x.writer(code(hands[w])), w);
            touches[w] = random.nextInt(13);
            x.mend(w, 7, touches[w]);
        }
        ribbon = random.nextInt(10);
        x.mend(0, 8, ribbon);
        law = random.nextInt(LAWS.length);
        if (LAWS[law] != null) {
            for (char c : LAWS[law].toCharArray()) {
                x.feed(c);
            }
            due("law", x.law(), 1);
        }
        return x;
    }

    private static void pairs(TypewritersKnow x) {
        for (int w = 0; w < hands.length; w++) {
            int nearest = 0;
            for (int m = 0; m < pulls.length; m++) {
                int h = random.nextInt(3);
                due("shows", x.shows(10 * w + m, h, 0), show(w, m)[h]);
                due("grip", x.shows(10 * w + m, h, 1), grip(w, m, h));
                due("far", x.far(10 * w + m), far(w, m));
                nearest = far(w, m) < far(w, nearest) ? m : nearest;
                int v = random.nextInt(13);
                int way = hands[w][h] - pulls[m][h];
                int part = v - pulls[m][h];
                boolean reached = part == 0 || Integer.signum(part) == Integer.signum(way) && Math.abs(part) <= Math.abs(way);
                due("teach", x.teach(10 * w + m, 100 * h + v), reached ? Math.abs(part) : TypewritersKnow.NOT);
            }
            due("nearest machine", x.nearest(w, 0), nearest);
        }
        for (int m = 0; m < pulls.length; m++) {
            int nearest = 0;
            for (int w = 0; w < hands.length; w++) {
                nearest = far(w, m) < far(nearest, m) ? w : nearest;
            }
            due("nearest writer", x.nearest(m, 1), nearest);
        }
    }

    private static void day(TypewritersKnow x) {
        int[][] keptPulls = keepPulls();
        int[] keptAges = ages.clone();
        int size = random.nextInt(61);
        int[] day = new int[size];
        x.row(0, 0, size);
        for (int i = 0; i < size; i++) {
            int many = i % 2 == 0 ? hands.length : pulls.length;
            day[i] = random.nextInt(60) == 0 ? random.nextInt(256) - 128 : random.nextInt(many);
            x.put(0, i, day[i]);
        }
        int letters = 0;
        while (2 * letters + 1 < size && day[2 * letters] >= 0 && day[2 * letters] < hands.length
                && day[2 * letters + 1] >= 0 && day[2 * letters + 1] < pulls.length) {
            int m = day[2 * letters + 1];
            due("letter", x.letter(0, letters), code(type(day[2 * letters], m)));
            letters++;
            due("later age", x.later(0, letters, m, 3), ages[m]);
            due("later pull", x.later(0, letters, m, letters % 3), pulls[m][letters % 3]);
        }
        due("letters", x.letter(0, -1), letters);
        due("letter behind", x.letter(0, letters), TypewritersKnow.NOT);
        pulls = keptPulls;
        ages = keptAges;
    }

    private static boolean fits(int[] sheet, int w, int m) {
        int[] shown = show(w, m);
        for (int h = 0; h < 3 && h < sheet.length; h++) {
            if (shown[h] != sheet[h]) {
                return false;
            }
        }
        return true;
    }

    private static void sheet(TypewritersKnow x) {
        int[] shown = show(random.nextInt(hands.length), random.nextInt(pulls.length));
        int[] sheet = new int[random.nextInt(5)];
        x.row(1, 0, sheet.length);
        for (int i = 0; i < sheet.length; i++) {
            sheet[i] = i < 3 && random.nextInt(6) > 0 ? shown[i] : random.nextInt(13);
            x.put(1, i, sheet[i]);
        }
        int pairs = 0;
        int some = 0;
        for (int m = 0; m < pulls.length; m++) {
            int bits = 0;
            for (int w = 0; w < hands.length; w++) {
                bits |= fits(sheet, w, m) ? 1 << w : 0;
            }
            due("whose", x.whose(1, m), bits);
            pairs += Integer.bitCount(bits);
            some |= bits;
        }
        for (int w = 0; w < hands.length; w++) {
            int bits = 0;
            for (int m = 0; m < pulls.length; m++) {
                bits |= fits(sheet, w, m) ? 1 << m : 0;
            }
            due("where", x.where(1, w), bits);
        }
        due("pairs", x.pairs(1, 0), pairs);
        int sure = Integer.bitCount(some) == 1 ? Integer.numberOfTrailingZeros(some) : TypewritersKnow.NOT;
        due("sure", x.pairs(1, 1), sure);
        between(x, sheet);
    }

    private static void between(TypewritersKnow x, int[] sheet) {
        int[][] keptPulls = keepPulls();
        int[] keptAges = ages.clone();
        int w = random.nextInt(hands.length);
        int m = random.nextInt(pulls.length);
        int other = random.nextInt(hands.length);
        int letters = 0;
        while (letters <= 60 && !fits(sheet, other, m)) {
            type(w, m);
            letters++;
        }
        pulls = keptPulls;
        ages = keptAges;
        due("between", x.between(1, 10 * w + m, other), letters > 60 ? TypewritersKnow.NOT : letters);
    }

    private static int wrongThree(int[] book) {
        int[][] keptPulls = keepPulls();
        int[] keptAges = ages.clone();
        int three = 0;
        boolean good = true;
        while (good && 3 * three < book.length) {
            good = 3 * three + 2 < book.length && book[3 * three] >= 0 && book[3 * three] < hands.length
                && book[3 * three + 1] >= 0 && book[3 * three + 1] < pulls.length
                && code(type(book[3 * three], book[3 * three + 1])) == book[3 * three + 2];
            three += good ? 1 : 0;
        }
        pulls = keptPulls;
        ages = keptAges;
        return good ? TypewritersKnow.NOT : three;
    }

    private static int[] trueBook(int size) {
        int[][] keptPulls = keepPulls();
        int[] keptAges = ages.clone();
        int[] book = new int[size];
        for (int i = 0; i < size; i += 3) {
            int w = random.nextInt(hands.length);
            int m = random.nextInt(pulls.length);
            int[] three = {w, m, code(type(w, m))};
            System.arraycopy(three, 0, book, i, Math.min(3, size - i));
        }
        pulls = keptPulls;
        ages = keptAges;
        return book;
    }

    private static void book(TypewritersKnow x) {
        int size = random.nextInt(4) == 0 ? random.nextInt(61) : 3 * random.nextInt(7);
        int[] book = trueBook(size);
        if (size > 0 && random.nextBoolean()) {
            int i = random.nextInt(size);
            book[i] = i % 3 == 2 ? random.nextInt(2197) : random.nextInt(9) - 1;
        }
        x.row(2, 1, size);
        for (int i = 0; i < size; i++) {
            x.put(2, i, book[i]);
        }
        due("judge", x.judge(2), wrongThree(book));
        for (int k = 0; k < size / 3; k++) {
            int bits = 0;
            int told = book[3 * k];
            for (int w = 0; w < hands.length; w++) {
                book[3 * k] = w;
                bits |= w != told && wrongThree(book) == TypewritersKnow.NOT ? 1 << w : 0;
            }
            book[3 * k] = told;
            due("false " + k, x.falseOne(2, k), bits);
        }
        due("false behind", x.falseOne(2, size / 3), TypewritersKnow.NOT);
        int kept = ribbon;
        int many = 0;
        int least = TypewritersKnow.NOT;
        for (ribbon = 0; ribbon <= 9; ribbon++) {
            if (wrongThree(book) == TypewritersKnow.NOT) {
                many++;
                least = least < 0 ? ribbon : least;
            }
        }
        ribbon = kept;
        due("ribbons", x.ribbons(2, 0), many);
        due("least ribbon", x.ribbons(2, 1), least);
    }

    private static void drawn(TypewritersKnow x) {
        int seed = random.nextInt();
        int n = 1 + random.nextInt(random.nextBoolean() ? 30 : 3);
        int m = 1 + random.nextInt(random.nextBoolean() ? 30 : 3);
        int[][] keptPulls = keepPulls();
        int[] keptAges = ages.clone();
        int[] often = new int[pulls.length];
        int far = 0;
        int z = seed;
        for (int day = 0; day < n; day++) {
            pulls = keptPulls;
            keptPulls = keepPulls();
            for (int i = 0; i < m; i++) {
                z = z * 1103515245 + 12345;
                long high = z & 0xFFFFFFFFL;
                int on = (int) (high / 65536 % pulls.length);
                type((int) (high / 256 % hands.length), on);
                often[on]++;
            }
            for (int w = 0; w < hands.length; w++) {
                for (int at = 0; at < pulls.length; at++) {
                    far += far(w, at);
                }
            }
        }
        pulls = keptPulls;
        ages = keptAges;
        due("drawn", x.drawn(seed, 100 * n + m, -1), far);
        for (int at = 0; at < pulls.length; at++) {
            due("drawn on " + at, x.drawn(seed, 100 * n + m, at), often[at]);
        }
    }

    private static void deeds(TypewritersKnow x) {
        int showed = x.led(3);
        for (int i = 0; i < 12; i++) {
            int w = random.nextInt(hands.length);
            int m = random.nextInt(pulls.length);
            if (random.nextInt(3) == 0) {
                for (int h = 0; h < 3; h++) {
                    hands[w][h] += Integer.signum(pulls[m][h] - hands[w][h]);
                }
                due("learn", x.learn(10 * w + m), code(hands[w]));
            } else {
                int[] shown = type(w, m);
                showed += shown[0] + shown[1] + shown[2];
                due("types", x.types(10 * w + m), code(shown));
                due("latest", x.led(4), m);
            }
        }
        due("showed", x.led(3), showed);
        for (int m = 0; m < pulls.length; m++) {
            due("age", x.of(m, 3), ages[m]);
            for (int h = 0; h < 3; h++) {
                due("pull", x.of(m, h), pulls[m][h]);
            }
        }
    }

    public static void main(String[] args) {
        for (int i = 0; i < 600; i++) {
            TypewritersKnow x = agency();
            for (int round = 0; round < 2; round++) {
                pairs(x);
                day(x);
                sheet(x);
                book(x);
                drawn(x);
                deeds(x);
            }
        }
        System.out.println("600 agencies, " + wrong + " wrong");
        if (wrong != 0) {
            System.exit(1);
        }
    }
}
