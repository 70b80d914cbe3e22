import java.util.ArrayList;
import java.util.Arrays;
import java.util.List;
import java.util.NoSuchElementException;

/**
 * Refused calls answer NONE, or false, and change nothing: every call of the face is made with numbers
 * on both sides of each edge and far behind it, on objects of many kinds. Whether a call is refused is
 * told here once more, straight from the document; a refused one, and one that only asks, must leave
 * the object so that whatever can be asked of it has the answer that it has of an untouched one.
 */
public final class RefusedTest {
    private static final int THROWN = -2;
    private static final int MOST_SHOWN = 20;
    private static final int[] OTHERS = {-1, 0, 1, 2, 3, 7};
    private static final int[] LETTERS_OF_ALL = {1, -2, 3, 3, -1, 2};

    private static int calls = 0;
    private static int refused = 0;
    private static int wrong = 0;

    /** A way to fill a new object. */
    private interface Scene {
        void fill(RackBench x);
    }

    /** A call of the face; a boolean counts 1 or 0. */
    private interface Call {
        int on(RackBench x, int[] with);
    }

    /** Whether the document lets the call through. */
    private interface Rule {
        boolean lets(Facts facts, int[] with);
    }

    private static final class Kind {
        private final String name;
        private final int places;
        private final boolean asks;
        private final int refusal;
        private final Call call;
        private final Rule rule;

        Kind(String name, int places, boolean asks, int refusal, Call call, Rule rule) {
            this.name = name;
            this.places = places;
            this.asks = asks;
            this.refusal = refusal;
            this.call = call;
            this.rule = rule;
        }
    }

    /** What the rules look at, told by the oracle's judgement of the table and not by the object's own. */
    private static final class Facts {
        private final int n;
        private final int k;
        private final int m;
        private final int letters;
        private final int told;
        private final boolean wholeRows;
        private final boolean rack;
        private final boolean closed;
        private final int[] kept = new int[4];

        Facts(Scene scene) {
            RackBench x = filled(scene);
            n = x.count(0);
            k = x.count(1);
            m = x.count(2);
            letters = x.count(3);
            told = x.count(4);
            int[][] t = new int[n][n];
            int[][] v = new int[n][n];
            for (int i = 0; i < n * n; i++) {
                t[i / n][i % n] = x.at(i / n, i % n);
                v[i / n][i % n] = x.twisted(i / n, i % n);
            }
            int[] judged = Oracle.judged(t);
            wholeRows = judged.length != 1;
            rack = judged.length == 0;
            closed = Oracle.openTriple(t, v, k).length == 0;
            for (int keep = 0; keep < 4; keep++) {
                kept[keep] = Math.max(0, x.fetch(keep));
            }
        }

        boolean thing(int a) {
            return a >= 0 && a < n;
        }

        boolean hasKept(int keep) {
            return keep >= 0 && keep <= 3 && kept[keep] > 0;
        }
    }

    private RefusedTest() {
    }

    public static void main(String[] args) {
        List<Kind> kinds = new ArrayList<>();
        addTables(kinds);
        addJudgements(kinds);
        addTwists(kinds);
        addBraidsAndLists(kinds);
        int[] numbers = numbers();
        for (Scene scene : scenes()) {
            Facts facts = new Facts(scene);
            String untouched = whole(filled(scene));
            for (Kind kind : kinds) {
                goThrough(scene, facts, untouched, kind, numbers);
            }
        }
        System.out.println("RefusedTest: " + kinds.size() + " kinds of calls, " + calls + " calls, " + refused
                + " refused, " + wrong + " wrong");
        System.exit(wrong == 0 && refused > 0 ? 0 : 1);
    }

    // ---- the objects

    private static Scene[] scenes() {
        return new Scene[] {
            x -> { },
            RefusedTest::fillWithQuandle,
            RefusedTest::fillWithRackAndClosedTwist,
            RefusedTest::fillWithTornRow,
            RefusedTest::fillWithRowsButNoRack,
            RefusedTest::fillToTheBrim,
        };
    }

    private static RackBench filled(Scene scene) {
        RackBench x = new RackBench();
        scene.fill(x);
        return x;
    }

    private static void fillWithQuandle(RackBench x) {
        x.turn(2, 1);
        x.keep(0);
        x.line(4, 3);
        x.keep(2);
        x.line(3, 2);
        x.modulus(5);
        x.twist(0, 1, 4);
        x.twist(2, 2, 1);
        Checks.word(x, 3, 1, -2, -2);
        x.orbits();
    }

    private static void fillWithRackAndClosedTwist(RackBench x) {
        x.turn(2, 1);
        x.modulus(4);
        x.twist(0, 0, 3);
        x.twist(1, 0, 3);
        x.keep(1);
        Checks.word(x, 2, -1);
        x.within(2);
    }

    private static void fillWithTornRow(RackBench x) {
        x.table(1);
        x.keep(3);
        Checks.lay(x, "0123 0120 0123 3123");
        x.keep(0);
        x.modulus(3);
        x.twist(3, 3, 2);
        x.twist(1, 0, 1);
        Checks.word(x, 4, 3, 2, -1);
        x.wrong();
    }

    private static void fillWithRowsButNoRack(RackBench x) {
        Checks.lay(x, "012 021 012");
        x.twist(2, 0, 1);
        x.keep(1);
        Checks.word(x, 2, 1, 1, -1);
        x.wrong();
    }

    /** All that can be full is: things, keeps, letters, the row. */
    private static void fillToTheBrim(RackBench x) {
        x.line(8, 3);
        for (int keep = 0; keep < 4; keep++) {
            x.keep(keep);
        }
        x.group(3);
        x.modulus(7);
        x.twist(7, 7, 6);
        x.twist(0, 7, 5);
        x.strands(4);
        for (int i = 0; i < 24; i++) {
            x.letter(LETTERS_OF_ALL[i % LETTERS_OF_ALL.length]);
        }
        x.orbits();
    }

    // ---- what can be asked of an object

    /** All that the object holds; the object can't be used behind this. */
    private static String whole(RackBench x) {
        StringBuilder text = new StringBuilder();
        for (int what = 0; what < 5; what++) {
            text.append(x.count(what)).append(' ');
        }
        for (int i = 0; i < x.count(4); i++) {
            text.append(x.row(i)).append(' ');
        }
        int n = x.count(0);
        for (int i = 0; i < n * n; i++) {
            text.append(x.at(i / n, i % n)).append(x.twisted(i / n, i % n)).append(' ');
        }
        addWord(text, x);
        addKept(text, x);
        return text.toString();
    }

    /** The letters themselves can't be asked for; the sums of an uneven twist tell words apart. */
    private static void addWord(StringBuilder text, RackBench x) {
        x.line(3, 2);
        x.modulus(7);
        for (int i = 0; i < 9; i++) {
            x.twist(i / 3, i % 3, i * i % 7);
        }
        for (int sum = 0; sum < 7; sum++) {
            text.append(x.sums(sum)).append(' ');
        }
    }

    private static void addKept(StringBuilder text, RackBench x) {
        for (int keep = 0; keep < 4; keep++) {
            int n = x.fetch(keep);
            text.append("| ").append(n).append(' ');
            for (int i = 0; i < n * n; i++) {
                text.append(x.at(i / n, i % n));
            }
        }
    }

    // ---- the calls

    private static int bit(boolean answer) {
        return answer ? 1 : 0;
    }

    private static void addTables(List<Kind> kinds) {
        kinds.add(new Kind("table", 1, false, 0, (x, w) -> bit(x.table(w[0])), (f, w) -> w[0] >= 1 && w[0] <= 8));
        kinds.add(new Kind("set", 3, false, 0, (x, w) -> bit(x.set(w[0], w[1], w[2])),
                (f, w) -> f.thing(w[0]) && f.thing(w[1]) && f.thing(w[2])));
        kinds.add(new Kind("at", 2, true, THROWN, (x, w) -> x.at(w[0], w[1]),
                (f, w) -> f.thing(w[0]) && f.thing(w[1])));
        kinds.add(new Kind("line", 2, false, 0, (x, w) -> bit(x.line(w[0], w[1])), (f, w) -> isLine(w[0], w[1])));
        kinds.add(new Kind("turn", 2, false, 0, (x, w) -> bit(x.turn(w[0], w[1])), (f, w) -> isTurn(w[0], w[1])));
        kinds.add(new Kind("group", 1, false, -1, (x, w) -> x.group(w[0]), (f, w) -> w[0] >= 0 && w[0] <= 23));
        kinds.add(new Kind("keep", 1, false, 0, (x, w) -> bit(x.keep(w[0])), (f, w) -> w[0] >= 0 && w[0] <= 3));
        kinds.add(new Kind("fetch", 1, false, -1, (x, w) -> x.fetch(w[0]), (f, w) -> f.hasKept(w[0])));
        kinds.add(new Kind("count", 1, true, -1, (x, w) -> x.count(w[0]), (f, w) -> w[0] >= 0 && w[0] <= 4));
    }

    private static boolean isLine(int n, int t) {
        String[] fitting = {"0", "1", "12", "13", "1234", "15", "123456", "1357"};
        return n >= 1 && n <= 8 && t >= 0 && t <= 9 && fitting[n - 1].indexOf('0' + t) >= 0;
    }

    private static boolean isTurn(int n, int p) {
        int[] permutations = {1, 2, 6, 24, 120, 720, 5040, 40320};
        return n >= 1 && n <= 8 && p >= 0 && p < permutations[n - 1];
    }

    private static void addJudgements(List<Kind> kinds) {
        kinds.add(new Kind("is", 1, true, -1, (x, w) -> x.is(w[0]), (f, w) -> f.rack && w[0] >= 0 && w[0] <= 4));
        kinds.add(new Kind("orbits", 0, false, -1, (x, w) -> x.orbits(), (f, w) -> f.rack));
        kinds.add(new Kind("moves", 0, true, -1, (x, w) -> x.moves(), (f, w) -> f.rack));
        kinds.add(new Kind("keepers", 0, true, -1, (x, w) -> x.keepers(), (f, w) -> true));
        kinds.add(new Kind("like", 1, true, -1, (x, w) -> x.like(w[0]), (f, w) -> f.hasKept(w[0])));
        kinds.add(new Kind("dual", 0, false, 0, (x, w) -> bit(x.dual()), (f, w) -> f.wholeRows));
        kinds.add(new Kind("times", 1, false, -1, (x, w) -> x.times(w[0]),
                (f, w) -> f.hasKept(w[0]) && f.n * f.kept[w[0]] <= 8));
        kinds.add(new Kind("part", 2, false, -1, (x, w) -> x.part(w[0], w[1]),
                (f, w) -> f.rack && f.thing(w[0]) && f.thing(w[1])));
        kinds.add(new Kind("within", 1, false, -1, (x, w) -> x.within(w[0]),
                (f, w) -> w[0] > 0 && w[0] < 1 << f.n));
    }

    private static void addTwists(List<Kind> kinds) {
        kinds.add(new Kind("modulus", 1, false, 0, (x, w) -> bit(x.modulus(w[0])), (f, w) -> w[0] >= 2 && w[0] <= 7));
        kinds.add(new Kind("twist", 3, false, 0, (x, w) -> bit(x.twist(w[0], w[1], w[2])),
                (f, w) -> f.thing(w[0]) && f.thing(w[1]) && w[2] >= 0 && w[2] < f.k));
        kinds.add(new Kind("twisted", 2, true, -1, (x, w) -> x.twisted(w[0], w[1]),
                (f, w) -> f.thing(w[0]) && f.thing(w[1])));
        kinds.add(new Kind("closed", 0, false, -1, (x, w) -> x.closed(), (f, w) -> f.rack));
        kinds.add(new Kind("cover", 0, false, -1, (x, w) -> x.cover(), (f, w) -> f.rack && f.closed && f.n * f.k <= 8));
        kinds.add(new Kind("power", 2, true, -1, (x, w) -> x.power(w[0], w[1]),
                (f, w) -> f.rack && isPrime(w[0]) && (w[1] == 0 || w[1] == 1)));
    }

    private static boolean isPrime(int p) {
        return p == 2 || p == 3 || p == 5 || p == 7;
    }

    private static void addBraidsAndLists(List<Kind> kinds) {
        kinds.add(new Kind("strands", 1, false, 0, (x, w) -> bit(x.strands(w[0])), (f, w) -> w[0] >= 2 && w[0] <= 4));
        kinds.add(new Kind("letter", 1, false, -1, (x, w) -> x.letter(w[0]),
                (f, w) -> w[0] != 0 && w[0] > -f.m && w[0] < f.m && f.letters < 24));
        kinds.add(new Kind("colours", 0, true, -1, (x, w) -> x.colours(), (f, w) -> f.rack));
        kinds.add(new Kind("sums", 1, true, -1, (x, w) -> x.sums(w[0]),
                (f, w) -> f.rack && w[0] >= 0 && w[0] < f.k));
        kinds.add(new Kind("listed", 2, true, -1, (x, w) -> x.listed(w[0], w[1]), (f, w) -> size(w[0], w[1]) > 0));
        kinds.add(new Kind("pick", 3, false, 0, (x, w) -> bit(x.pick(w[0], w[1], w[2])),
                (f, w) -> w[2] >= 0 && w[2] < size(w[0], w[1])));
        kinds.add(new Kind("row", 1, true, THROWN, (x, w) -> x.row(w[0]), (f, w) -> w[0] >= 0 && w[0] < f.told));
    }

    /** How many there are in a list; 0 for a list that there is not. */
    private static int size(int n, int what) {
        int[][] sizes = {{1, 2, 6, 19}, {1, 1, 3, 7}};
        return n >= 1 && n <= 4 && (what == 0 || what == 1) ? sizes[what][n - 1] : 0;
    }

    // ---- how they are gone through

    /** All small numbers, those about each power of two, and those about the permutations' ends. */
    private static int[] numbers() {
        List<Integer> all = new ArrayList<>();
        for (int i = -10; i <= 26; i++) {
            all.add(i);
        }
        for (int bit = 5; bit < 32; bit++) {
            for (int more = -1; more <= 1; more++) {
                all.add((1 << bit) + more);
                all.add(-(1 << bit) + more);
            }
        }
        all.addAll(Arrays.asList(119, 120, 719, 720, 5039, 5040, 40319, 40320));
        return all.stream().mapToInt(Integer::intValue).distinct().toArray();
    }

    private static void goThrough(Scene scene, Facts facts, String untouched, Kind kind, int[] numbers) {
        if (kind.places == 0) {
            look(scene, facts, untouched, kind, new int[0]);
        }
        for (int place = 0; place < kind.places; place++) {
            for (int number : numbers) {
                for (int other = 0; other < (kind.places == 1 ? 1 : OTHERS.length); other++) {
                    int[] with = new int[kind.places];
                    Arrays.fill(with, OTHERS[other]);
                    with[place] = number;
                    look(scene, facts, untouched, kind, with);
                }
            }
        }
    }

    private static void look(Scene scene, Facts facts, String untouched, Kind kind, int[] with) {
        RackBench x = filled(scene);
        int answer = answer(x, kind, with);
        boolean lets = kind.rule.lets(facts, with);
        calls++;
        refused += lets ? 0 : 1;
        if (lets == (answer == kind.refusal)) {
            fault(kind, with, "answered " + answer + (lets ? ", though the document lets it" : ", due is a refusal"));
        }
        if ((kind.asks || !lets) && !untouched.equals(whole(x))) {
            fault(kind, with, "changed something");
        }
    }

    private static int answer(RackBench x, Kind kind, int[] with) {
        try {
            return kind.call.on(x, with);
        } catch (NoSuchElementException e) {
            return THROWN;
        }
    }

    private static void fault(Kind kind, int[] with, String what) {
        wrong++;
        if (wrong <= MOST_SHOWN) {
            System.out.println(kind.name + Arrays.toString(with) + " " + what);
        }
    }
}
