import java.util.Arrays;
import java.util.Random;

/**
 * Rounds and falls of up to 12 FAMILIES (promises 13 and 17), beside a search over all sets of
 * PUPILS who go and all sets of HOMES that have one.
 */
public final class BigRoundsTest {
    private static final int NONE = -1;
    private static final long NEVER = Long.MAX_VALUE;

    private final Random random;
    private final int n;
    private final HostYear x = new HostYear();
    private final boolean[] gives;
    private final boolean[] trusted;
    private final int[][] cost;
    private final long[] powers;

    private BigRoundsTest(int seed, int n) {
        this.random = new Random(seed);
        this.n = n;
        this.gives = new boolean[n];
        this.trusted = new boolean[n];
        this.cost = new int[n][n];
        this.powers = new long[n + 1];
    }

    public static void main(String[] args) {
        for (int seed = 0; seed < 120; seed++) {
            new BigRoundsTest(seed, 6 + seed % 4).compare(3);
        }
        for (int seed = 200; seed < 206; seed++) {
            new BigRoundsTest(seed, 11).compare(2);
        }
        for (int seed = 300; seed < 304; seed++) {
            new BigRoundsTest(seed, 12).compare(1);
        }
        Check.end("BigRoundsTest");
    }

    private void compare(int falls) {
        tellFacts();
        powers[n] = 1;
        for (int p = n - 1; p >= 0; p--) {
            powers[p] = powers[p + 1] * 13;
        }
        int[] none = new int[n];
        Arrays.fill(none, NONE);
        boolean[] out = new boolean[n];
        int[] due = best(none, out);
        Check.due("round of " + n, x.round(0, 0), Model.going(due));
        for (int p = 0; p < n; p++) {
            Check.due("goes " + p + " of " + n, x.goes(p), due[p]);
        }
        Check.due("take", x.take(), Model.going(due));
        for (int i = 0; i < falls && Model.going(due) > 0; i++) {
            due = compareFall(due, out);
        }
    }

    private int[] compareFall(int[] places, boolean[] out) {
        int p = random.nextInt(n);
        while (places[p] == NONE) {
            p = random.nextInt(n);
        }
        int[] before = places.clone();
        before[p] = NONE;
        out[p] = true;
        int[] due = best(before, out);
        int moves = 0;
        for (int q = 0; q < n; q++) {
            moves += before[q] != NONE && before[q] != due[q] ? 1 : 0;
        }
        Check.due("fall " + p + " of " + n, x.fall(p), moves);
        for (int q = 0; q < n; q++) {
            Check.due("of " + q + " behind a fall", x.of(q, 0), due[q]);
        }
        return due;
    }

    /** Wishes alone, thin or thick, and with many that are the same, so that the order decides. */
    private void tellFacts() {
        int thickness = 1 + random.nextInt(9);
        int most = 1 + random.nextInt(9);
        int told = 0;
        for (int f = 0; f < n; f++) {
            x.family();
        }
        for (int f = 0; f < n; f++) {
            gives[f] = random.nextInt(4) == 0;
            trusted[f] = random.nextInt(4) == 0;
            x.tell(f, 0, 1);
            x.tell(f, 1, 1);
            x.tell(f, 2, gives[f] ? 1 : 0);
            x.tell(f, 3, trusted[f] ? 1 : 0);
            for (int h = 0; h < n; h++) {
                int wish = f != h && random.nextInt(10) < thickness ? 1 + random.nextInt(most) : 0;
                cost[f][h] = wish == 0 ? NONE : wish;
                told = wish == 0 ? told : x.tell(f, 20 + h, wish);
            }
        }
        Check.due("facts are told", told < 400 && told != NONE, true);
    }

    private int[] best(int[] before, boolean[] out) {
        long least = NEVER;
        int leastMoves = 99;
        int leastGoing = 0;
        long unit = powers[0] * 200;
        for (int goers = 0; goers < 1 << n; goers++) {
            long[] lightest = lightest(goers, before, out, unit);
            for (int hosts = 0; hosts < 1 << n; hosts++) {
                if (lightest[hosts] == NEVER || !isClosed(goers, hosts)) {
                    continue;
                }
                int moves = (int) (lightest[hosts] / unit);
                int going = Integer.bitCount(goers);
                long rest = lightest[hosts] % unit;
                boolean better = moves != leastMoves ? moves < leastMoves
                    : going != leastGoing ? going > leastGoing : rest < least;
                if (better) {
                    leastMoves = moves;
                    leastGoing = going;
                    least = rest;
                }
            }
        }
        return homesBy(least % powers[0]);
    }

    private int[] homesBy(long order) {
        int[] homes = new int[n];
        long left = order;
        for (int p = 0; p < n; p++) {
            int digit = (int) (left / powers[p + 1]);
            left %= powers[p + 1];
            homes[p] = digit == 12 ? NONE : digit;
        }
        return homes;
    }

    private boolean isClosed(int goers, int hosts) {
        for (int f = 0; f < n; f++) {
            boolean goes = (goers >> f & 1) == 1;
            boolean hosting = (hosts >> f & 1) == 1;
            if (goes && !hosting && !trusted[f] || hosting && !goes && !gives[f]) {
                return false;
            }
        }
        return true;
    }

    /** By the set of HOMES: MOVES, then COST, then the HOMES in order, all in one number. */
    private long[] lightest(int goers, int[] before, boolean[] out, long unit) {
        long[] now = new long[1 << n];
        Arrays.fill(now, NEVER);
        now[0] = 0;
        for (int p = 0; p < n; p++) {
            long[] next = new long[1 << n];
            Arrays.fill(next, NEVER);
            boolean goes = (goers >> p & 1) == 1;
            for (int hosts = 0; hosts < 1 << n; hosts++) {
                if (now[hosts] == NEVER) {
                    continue;
                }
                if (!goes) {
                    next[hosts] = now[hosts] + (before[p] != NONE ? unit : 0) + 12 * powers[p + 1];
                    continue;
                }
                for (int h = 0; h < n && !out[p]; h++) {
                    if (cost[p][h] != NONE && (hosts >> h & 1) == 0) {
                        long moves = before[p] != NONE && before[p] != h ? unit : 0;
                        long key = now[hosts] + moves + cost[p][h] * powers[0] + h * powers[p + 1];
                        next[hosts | 1 << h] = Math.min(next[hosts | 1 << h], key);
                    }
                }
            }
            now = next;
        }
        return now;
    }
}
