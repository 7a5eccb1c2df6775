import java.util.Random;

/** Promises 12, 15, 17, 25, 26, 28 against plainer searches over all ways, on random agencies. */
public final class SearchTest {
    private static final int FAR_OFF = 1000000;
    private static int wrong = 0;
    private static int[][] pulls;
    private static int[][] hands;
    private static int best;
    private static int[] bestWay;

    private static void due(String what, long got, long want) {
        if (got != want) {
            wrong++;
            System.out.println(what + " answered " + got + ", due is " + want);
        }
    }

    private static int code(int[] parts) {
        return 169 * parts[0] + 13 * parts[1] + parts[2];
    }

    private static int[] parts(int code) {
        return new int[] {code / 169, code / 13 % 13, code % 13};
    }

    private static int[] nearer(int[] from, int[] to) {
        int[] next = new int[3];
        for (int h = 0; h < 3; h++) {
            next[h] = from[h] + Integer.signum(to[h] - from[h]);
        }
        return next;
    }

    private static int far(int w, int m) {
        int all = 0;
        for (int h = 0; h < 3; h++) {
            all += Math.abs(hands[w][h] - pulls[m][h]);
        }
        return all;
    }

    private static TypewritersKnow agency(Random random, int machines, int writers) {
        TypewritersKnow x = new TypewritersKnow();
        // A narrow span makes like ones frequent.
        int span = random.nextBoolean() ? 3 : 13;
        pulls = new int[machines][3];
        hands = new int[writers][3];
        for (int m = 0; m < machines; m++) {
            x.machine();
            for (int h = 0; h < 3; h++) {
                pulls[m][h] = random.nextInt(span);
                x.mend(m, h, pulls[m][h]);
            }
        }
        for (int w = 0; w < writers; w++) {
            for (int h = 0; h < 3; h++) {
                hands[w][h] = random.nextInt(span);
            }
            x.writer(code(hands[w]));
        }
        return x;
    }

    /** All ways in the order of numbers; the first of the least ones stays. */
    private static void assign(int w, int taken, int far, int[] way) {
        if (w == hands.length) {
            if (far < best) {
                best = far;
                bestWay = way.clone();
            }
            return;
        }
        for (int m = 0; m < pulls.length; m++) {
            if ((taken & 1 << m) == 0) {
                way[w] = m;
                assign(w + 1, taken | 1 << m, far + far(w, m), way);
            }
        }
    }

    private static void given(TypewritersKnow x) {
        if (hands.length > pulls.length) {
            due("given", x.given(-1), TypewritersKnow.STATE);
            return;
        }
        best = Integer.MAX_VALUE;
        assign(0, 0, 0, new int[hands.length]);
        due("given", x.given(-1), best);
        for (int k = 0; k < hands.length; k++) {
            due("given " + k, x.given(k), bestWay[k]);
        }
    }

    /** How far each code is from a goal, by going over all codes until nothing falls any more. */
    private static int[] fromGoal(int goal) {
        int[] far = new int[2197];
        for (int c = 0; c < 2197; c++) {
            far[c] = c == goal ? 0 : FAR_OFF;
        }
        boolean fell = true;
        while (fell) {
            fell = false;
            for (int c = 0; c < 2197; c++) {
                for (int[] hand : hands) {
                    int by = far[code(nearer(parts(c), hand))] + 1;
                    if (by < far[c]) {
                        far[c] = by;
                        fell = true;
                    }
                }
            }
        }
        return far;
    }

    private static void bring(TypewritersKnow x, Random random) {
        int m = random.nextInt(pulls.length);
        int[] goal = pulls[m].clone();
        // Some letters by random hands give a goal that can be reached.
        for (int i = random.nextInt(12); i > 0 && hands.length > 0; i--) {
            goal = nearer(goal, hands[random.nextInt(hands.length)]);
        }
        if (random.nextInt(4) == 0) {
            goal = parts(random.nextInt(2197));
        }
        int[] far = fromGoal(code(goal));
        int at = code(pulls[m]);
        int letters = far[at];
        due("bring", x.bring(m, code(goal), -1), letters >= FAR_OFF ? TypewritersKnow.NOT : letters);
        for (int k = 0; k < letters && letters < FAR_OFF; k++) {
            int w = 0;
            while (far[code(nearer(parts(at), hands[w]))] != far[at] - 1) {
                w++;
            }
            due("bring " + k, x.bring(m, code(goal), k), w);
            at = code(nearer(parts(at), hands[w]));
        }
        due("bring behind", x.bring(m, code(goal), letters), TypewritersKnow.NOT);
    }

    private static void buy(TypewritersKnow x, Random random) {
        int v = random.nextInt(1000);
        int bestBits = 0;
        int bestRank = 0;
        for (int bits = (1 << pulls.length) - 1; bits >= 0; bits--) {
            int pence = 0;
            for (int m = 0; m < pulls.length; m++) {
                pence += (bits >> m & 1) * x.price(m);
            }
            int rank = Integer.bitCount(bits) * 1000 - pence;
            if (pence <= v && rank >= bestRank) {
                bestBits = bits;
                bestRank = rank;
            }
        }
        due("buy", x.buy(v, 0), Integer.bitCount(bestBits));
        due("buy which", x.buy(v, 1), bestBits);
        for (int m = 0; m < pulls.length; m++) {
            int near = Integer.MAX_VALUE;
            for (int w = 0; w < hands.length; w++) {
                near = Math.min(near, far(w, m));
            }
            due("price", x.price(m), Math.max(0, 100 - (hands.length == 0 ? 50 : 3 * near) - x.of(m, 3) / 2));
        }
    }

    private static void nights(TypewritersKnow x) {
        int[][] at = pulls;
        int alike = TypewritersKnow.NOT;
        for (int night = 0; night <= 99; night++) {
            boolean all = true;
            for (int m = 0; m < at.length; m++) {
                all &= code(at[m]) == code(at[0]);
                if (night <= 60) {
                    due("morning", x.morning(m, night, night % 3), at[m][night % 3]);
                }
            }
            if (all && alike < 0) {
                alike = night;
            }
            int[][] next = new int[at.length][];
            for (int m = 0; m < at.length; m++) {
                next[m] = nearer(at[m], at[(m + 1) % at.length]);
            }
            at = next;
        }
        due("alike", x.alike(), alike);
    }

    private static void still(TypewritersKnow x, Random random) {
        int letters = random.nextInt(31);
        x.row(0, 0, 2 * letters);
        int[] day = new int[2 * letters];
        for (int i = 0; i < letters; i++) {
            day[2 * i] = random.nextInt(hands.length);
            day[2 * i + 1] = random.nextInt(pulls.length);
            x.put(0, 2 * i, day[2 * i]);
            x.put(0, 2 * i + 1, day[2 * i + 1]);
        }
        int[][] at = pulls.clone();
        int rounds = 0;
        for (boolean moved = true; moved; rounds++) {
            int[][] next = at.clone();
            for (int i = 0; i < letters; i++) {
                int m = day[2 * i + 1];
                next[m] = nearer(next[m], hands[day[2 * i]]);
                if (rounds == 0) {
                    due("later", x.later(0, i + 1, m, i % 3), next[m][i % 3]);
                }
            }
            moved = false;
            for (int m = 0; m < at.length; m++) {
                moved |= code(at[m]) != code(next[m]);
            }
            at = next;
        }
        due("still", x.still(0), rounds - 1);
    }

    public static void main(String[] args) {
        Random random = new Random(17);
        for (int i = 0; i < 300; i++) {
            int machines = 1 + random.nextInt(6);
            int writers = random.nextInt(6);
            TypewritersKnow x = agency(random, machines, writers);
            given(x);
            bring(x, random);
            nights(x);
            if (writers > 0) {
                still(x, random);
            }
            for (int m = 0; m < machines; m++) {
                x.mend(m, 3, random.nextInt(100));
            }
            buy(x, random);
        }
        TypewritersKnow full = agency(random, 8, 8);
        given(full);
        buy(full, random);
        nights(full);
        System.out.println("301 agencies, " + wrong + " wrong");
        if (wrong != 0) {
            System.exit(1);
        }
    }
}
