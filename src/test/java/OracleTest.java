import java.util.Arrays;
import java.util.List;
import java.util.NoSuchElementException;
import java.util.Random;

/** Long runs of calls on RackBench and on the Oracle at once: each answer must be the same. */
public final class OracleTest {
    private static final int RUNS = 1500;
    private static final int CALLS = 512;
    private static final int TABLES_OF_TWO = 16;
    private static final int TABLES_OF_THREE = 19683;
    private static final int TABLES_BY_CHANCE = 10000;
    private static final int OPS = 33;
    private static final int THROWN = Integer.MIN_VALUE;
    private static final int[] EDGES = {-1, Integer.MIN_VALUE, Integer.MAX_VALUE, 8, 9, 24, 64, 256, -9};

    private static int runs = 0;
    private static int wrong = 0;

    private final Random random;
    private final RackBench bench = new RackBench();
    private final Oracle oracle = new Oracle();
    private final StringBuilder trail = new StringBuilder();
    private int calls = 0;

    private OracleTest(long seed) {
        random = new Random(seed);
    }

    public static void main(String[] args) {
        for (int run = 0; run < RUNS; run++) {
            OracleTest test = new OracleTest(run);
            test.judge(run % 3 == 0 ? test.goThroughTables() : test.goThroughCalls());
        }
        for (int code = 0; code < TABLES_OF_TWO + TABLES_OF_THREE; code++) {
            OracleTest test = new OracleTest(code);
            boolean two = code < TABLES_OF_TWO;
            test.judge(test.goThroughSmallTable(two ? 2 : 3, two ? code : code - TABLES_OF_TWO));
        }
        for (int seed = 0; seed < TABLES_BY_CHANCE; seed++) {
            OracleTest test = new OracleTest(seed);
            test.judge(test.goThroughSmallTable(4 + seed % 2, test.random.nextInt(1 << 30)));
        }
        System.out.println("OracleTest: " + runs + " runs held against the oracle, " + wrong + " went wrong");
        System.exit(wrong == 0 ? 0 : 1);
    }

    private void judge(boolean passed) {
        runs++;
        if (!passed) {
            wrong++;
        }
        if (!passed && wrong < 10) {
            System.out.println("run " + runs + ":" + trail.substring(Math.max(0, trail.length() - 2000)));
        }
    }

    /** A table by its number to the base n; one cell of it is changed, and it is named anew. */
    private boolean goThroughSmallTable(int n, int code) {
        int[][] t = new int[n][n];
        int rest = code;
        for (int i = 0; i < n * n; i++) {
            t[i / n][i % n] = rest % n;
            rest /= n;
        }
        List<int[]> names = Oracle.permutations(n);
        boolean same = lay(t) && same(9) && same(13) && same(6, 0) && same(19, 1 + random.nextInt((1 << n) - 1));
        same = same && lay(Oracle.renamed(t, names.get(random.nextInt(names.size())))) && same(15, 0);
        int a = random.nextInt(n);
        int b = random.nextInt(n);
        same = same && same(1, a, b, (oracle.t[a][b] + 1) % n) && same(15, 0) && same(13);
        return same && same(16) && same(12) && same(14) && sameState();
    }

    /** Calls of all kinds; now and then a closed twist is laid, or all that can be asked is asked. */
    private boolean goThroughCalls() {
        boolean same = true;
        while (same && calls < CALLS - 170) {
            int chance = random.nextInt(30);
            if (chance == 0) {
                same = layClosedTwist();
            } else if (chance == 1) {
                same = sameState();
            } else {
                int op = nextOp();
                same = same(op, argument(op, 0), argument(op, 1), argument(op, 2));
            }
        }
        return same && sameState();
    }

    /** Tables that are told cell by cell, few of them racks, named anew and held against themselves. */
    private boolean goThroughTables() {
        int n = random.nextInt(20) == 0 ? 7 + random.nextInt(2) : 2 + random.nextInt(5);
        int values = 1 + random.nextInt(n);
        int spoilt = random.nextInt(5);
        int kind = random.nextInt(4);
        int[][] t = start(kind, n, values);
        for (int i = 0; i < spoilt; i++) {
            t[random.nextInt(n)][random.nextInt(n)] = random.nextInt(n);
        }
        List<int[]> names = Oracle.permutations(n);
        boolean same = lay(t) && same(13) && same(9) && same(6, 0) && same(16) && same(15, 0) && same(7, 0);
        same = same && lay(Oracle.renamed(t, names.get(random.nextInt(names.size())))) && same(15, 0);
        same = same && same(19, 1 + random.nextInt((1 << n) - 1)) && same(14) && sameState();
        t[random.nextInt(n)][random.nextInt(n)] = random.nextInt(n);
        return same && lay(t) && same(15, 0) && same(13) && same(14) && sameState();
    }

    private int[][] start(int kind, int n, int values) {
        int[][] t = new int[n][n];
        for (int a = 0; a < n; a++) {
            for (int b = 0; b < n; b++) {
                int[] kinds = {random.nextInt(n), random.nextInt(values), b, Math.floorMod(2 * a - b, n)};
                t[a][b] = kinds[kind];
            }
        }
        return t;
    }

    private boolean lay(int[][] t) {
        boolean same = same(0, t.length);
        for (int a = 0; a < t.length; a++) {
            for (int b = 0; b < t.length; b++) {
                same = same && (t[a][b] == b || same(1, a, b, t[a][b]));
            }
        }
        return same;
    }

    /** A flat twist and one number more everywhere: such a twist is closed by any rack. */
    private boolean layClosedTwist() {
        int n = oracle.t.length;
        int[] g = random.ints(n, 0, oracle.k).toArray();
        int more = random.nextInt(oracle.k);
        boolean same = true;
        for (int a = 0; a < n; a++) {
            for (int b = 0; b < n; b++) {
                same = same && same(21, a, b, Math.floorMod(g[oracle.t[a][b]] - g[b] + more, oracle.k));
            }
        }
        return same && same(23) && same(29, more) && (n > 4 || same(24));
    }

    private boolean sameState() {
        int n = oracle.t.length;
        boolean same = true;
        for (int what = 0; what < 5; what++) {
            same = same && same(8, what);
        }
        for (int a = 0; a < n && calls < CALLS - 30; a++) {
            for (int b = 0; b < n; b++) {
                same = same && same(2, a, b) && (calls > CALLS - 100 || same(22, a, b));
            }
        }
        for (int i = 0; i < oracle.told.size(); i++) {
            same = same && same(32, i);
        }
        return same;
    }

    private boolean same(int op, int... with) {
        int[] x = Arrays.copyOf(with, 3);
        int due = ask(op, x, true);
        int got = ask(op, x, false);
        calls++;
        trail.append(' ').append(op).append('(').append(x[0]).append(',').append(x[1]).append(',').append(x[2])
                .append(")=").append(got);
        if (due != got) {
            trail.append(", due is ").append(due);
        }
        return due == got;
    }

    private int nextOp() {
        // Every third call makes or mends a table, so that racks are met often enough.
        int[] makers = {0, 3, 4, 5, 7, 17, 18, 24, 31, 31, 14};
        int op = random.nextInt(3) == 0 ? makers[random.nextInt(makers.length)] : random.nextInt(OPS);
        // A table of its own by set is a rack seldom.
        if (op == 1 && random.nextInt(4) != 0) {
            op = 32;
        }
        boolean dear = op == 13 || op == 14 || op == 15;
        if (dear && oracle.t.length > 6 && random.nextInt(12) != 0) {
            op = 11;
        }
        return op;
    }

    private int argument(int op, int place) {
        if (random.nextInt(25) == 0) {
            return EDGES[random.nextInt(EDGES.length)];
        }
        int n = oracle.t.length;
        switch (op) {
            case 0:
                return 1 + random.nextInt(8);
            case 3:
                return place == 0 ? 1 + random.nextInt(8) : random.nextInt(8);
            case 4:
                return place == 0 ? 1 + random.nextInt(6) : random.nextInt(random.nextBoolean() ? 6 : 730);
            case 5:
                return random.nextInt(24);
            case 6:
            case 7:
            case 15:
            case 17:
                return random.nextInt(4);
            case 8:
            case 10:
                return random.nextInt(6);
            case 19:
                return random.nextInt((1 << n) + 1);
            case 20:
                return 1 + random.nextInt(7);
            case 21:
                return place == 2 ? random.nextInt(oracle.k) : random.nextInt(n + 1);
            case 25:
                return place == 0 ? new int[] {2, 3, 5, 7, 4}[random.nextInt(5)] : random.nextInt(2);
            case 26:
                return 2 + random.nextInt(3);
            case 27:
                return random.nextInt(2 * oracle.m) - oracle.m;
            case 29:
                return random.nextInt(oracle.k + 1);
            case 30:
            case 31:
                return place == 0 ? 1 + random.nextInt(4) : random.nextInt(place == 1 ? 2 : 20);
            default:
                return random.nextInt(n + 1);
        }
    }

    private int ask(int op, int[] x, boolean ofOracle) {
        try {
            return ofOracle ? askOracle(op, x) : askBench(op, x);
        } catch (NoSuchElementException e) {
            return THROWN;
        }
    }

    private static int bit(boolean answer) {
        return answer ? 1 : 0;
    }

    private int askBench(int op, int[] x) {
        RackBench b = bench;
        switch (op) {
            case 0: return bit(b.table(x[0]));
            case 1: return bit(b.set(x[0], x[1], x[2]));
            case 2: return b.at(x[0], x[1]);
            case 3: return bit(b.line(x[0], x[1]));
            case 4: return bit(b.turn(x[0], x[1]));
            case 5: return b.group(x[0]);
            case 6: return bit(b.keep(x[0]));
            case 7: return b.fetch(x[0]);
            case 8: return b.count(x[0]);
            case 9: return b.wrong();
            case 10: return b.is(x[0]);
            case 11: return b.orbits();
            case 12: return b.moves();
            case 13: return b.keepers();
            case 14: return bit(b.least());
            case 15: return b.like(x[0]);
            case 16: return bit(b.dual());
            case 17: return b.times(x[0]);
            case 18: return b.part(x[0], x[1]);
            case 19: return b.within(x[0]);
            case 20: return bit(b.modulus(x[0]));
            case 21: return bit(b.twist(x[0], x[1], x[2]));
            case 22: return b.twisted(x[0], x[1]);
            case 23: return b.closed();
            case 24: return b.cover();
            case 25: return b.power(x[0], x[1]);
            case 26: return bit(b.strands(x[0]));
            case 27: return b.letter(x[0]);
            case 28: return b.colours();
            case 29: return b.sums(x[0]);
            case 30: return b.listed(x[0], x[1]);
            case 31: return bit(b.pick(x[0], x[1], x[2]));
            default: return b.row(x[0]);
        }
    }

    private int askOracle(int op, int[] x) {
        Oracle o = oracle;
        switch (op) {
            case 0: return bit(o.table(x[0]));
            case 1: return bit(o.set(x[0], x[1], x[2]));
            case 2: return o.at(x[0], x[1]);
            case 3: return bit(o.line(x[0], x[1]));
            case 4: return bit(o.turn(x[0], x[1]));
            case 5: return o.group(x[0]);
            case 6: return bit(o.keep(x[0]));
            case 7: return o.fetch(x[0]);
            case 8: return o.count(x[0]);
            case 9: return o.wrong();
            case 10: return o.is(x[0]);
            case 11: return o.orbits();
            case 12: return o.moves();
            case 13: return o.keepers();
            case 14: return bit(o.least());
            case 15: return o.like(x[0]);
            case 16: return bit(o.dual());
            case 17: return o.times(x[0]);
            case 18: return o.part(x[0], x[1]);
            case 19: return o.within(x[0]);
            case 20: return bit(o.modulus(x[0]));
            case 21: return bit(o.twist(x[0], x[1], x[2]));
            case 22: return o.twisted(x[0], x[1]);
            case 23: return o.closed();
            case 24: return o.cover();
            case 25: return o.power(x[0], x[1]);
            case 26: return bit(o.strands(x[0]));
            case 27: return o.letter(x[0]);
            case 28: return o.colours();
            case 29: return o.sums(x[0]);
            case 30: return o.listed(x[0], x[1]);
            case 31: return bit(o.pick(x[0], x[1], x[2]));
            default: return o.row(x[0]);
        }
    }
}
