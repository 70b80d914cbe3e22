import java.util.Collections;
import java.util.HashSet;
import java.util.Set;

/**
 * Each sentence of the document that names an edge (too small, too large, empty, full, a wrap-around,
 * a refused call) has a test of its own here. That a refused call changes nothing at all, whatever the
 * object holds, is looked at in RefusedTest; here stand the answers on both sides of each edge.
 */
public final class EdgeTest extends Checks {
    private static final int LOW = Integer.MIN_VALUE;
    private static final int HIGH = Integer.MAX_VALUE;
    private static final int PROMISES = 34;
    private static final int[] FACTORIALS = {1, 1, 2, 6, 24, 120, 720, 5040, 40320};
    private static final String EIGHT_ALONE =
            "01234567 01234567 01234567 01234567 01234567 01234567 01234567 01234567";
    private static final String TORN = "012 012 011";
    private static final String NO_RACK = "012 021 012";

    private static final Set<Integer> PROMISES_MET = new HashSet<>();
    private static final Set<String> SENTENCES = new HashSet<>();
    private static int askedBefore = 0;

    public static void main(String[] args) {
        things();
        twistsOfTables();
        words();
        tables();
        judgements();
        apart();
        twists();
        braids();
        lists();
        lookThatAllWereAsked();
        System.out.println("EdgeTest: " + SENTENCES.size() + " sentences");
        end("EdgeTest");
    }

    /** Each sentence begins here: its promise (0: the terms), and its words. */
    private static void sentence(int promise, String words) {
        yes("it has a test", SENTENCES.isEmpty() || asked > askedBefore);
        where = (promise == 0 ? "the terms" : "promise " + promise) + ", \"" + words + "\"";
        yes("each is told once", SENTENCES.add(where));
        PROMISES_MET.add(promise);
        askedBefore = asked;
    }

    private static void lookThatAllWereAsked() {
        where = "all sentences";
        for (int promise = 1; promise <= PROMISES; promise++) {
            yes("promise " + promise + " has a sentence", PROMISES_MET.contains(promise));
        }
    }

    private static String alone(int n) {
        String row = "01234567".substring(0, n);
        return String.join(" ", Collections.nCopies(n, row));
    }

    private static void twistIsZero(RackBench x) {
        for (int a = 0; a < x.count(0); a++) {
            for (int b = 0; b < x.count(0); b++) {
                same("v(" + a + ", " + b + ")", x.twisted(a, b), 0);
            }
        }
    }

    private static void twistAll(RackBench x, int v) {
        for (int a = 0; a < x.count(0); a++) {
            for (int b = 0; b < x.count(0); b++) {
                x.twist(a, b, v);
            }
        }
    }

    // ---- the terms: things, permutations, likeness

    private static void things() {
        atFirstOneThing();
        atFirstNothingMoves();
        permutationZero();
        likeTablesAreOfOneN();
        leastRowByRow();
        at512Calls();
    }

    private static void atFirstOneThing() {
        sentence(0, "n 1 .. 8, at first 1");
        RackBench x = new RackBench();
        same("n", x.count(0), 1);
        yes("table(8)", x.table(8));
        same("n", x.count(0), 8);
        yes("table(1)", x.table(1));
        same("n", x.count(0), 1);
    }

    private static void atFirstNothingMoves() {
        sentence(0, "a:b (at first b)");
        tableIs(new RackBench(), "0");
    }

    private static void permutationZero() {
        sentence(0, "the first is the one that moves nothing, 0");
        for (int n = 1; n <= 8; n++) {
            tableIs(turned(n, 0), alone(n));
        }
    }

    private static void likeTablesAreOfOneN() {
        sentence(0, "LIKE: two tables of one n");
        RackBench x = new RackBench();
        x.keep(0);
        x.table(8);
        x.keep(1);
        same("eight and one", x.like(0), 0);
        same("eight and eight", x.like(1), 1);
        x.table(1);
        same("one and eight", x.like(1), 0);
        same("one and one", x.like(0), 1);
        x.table(7);
        same("seven and eight", x.like(1), 0);
    }

    private static void leastRowByRow() {
        sentence(0, "LEAST of a table: of all LIKE it the first by numbers, row by row");
        // With the two names changed, "10 01" is "01 10", and "10 11" is "00 10".
        RackBench x = told("10 01");
        yes("another one", x.least());
        tableIs(x, "01 10");
        lay(x, "10 11");
        yes("another one", x.least());
        tableIs(x, "00 10");
    }

    private static void at512Calls() {
        sentence(0, "An object is used for at most 512 calls");
        RackBench x = lined(7, 3);
        for (int call = 2; call <= 511; call++) {
            x.least();
        }
        same("call 512", x.moves(), 42);
        RackBench y = new RackBench();
        boolean all = true;
        for (int call = 1; call <= 512; call++) {
            all &= call % 2 == 1 ? y.pick(4, 0, call % 19) : y.listed(4, 0) == 19;
        }
        yes("512 calls that list", all);
    }

    // ---- the terms: twists

    private static void twistsOfTables() {
        atFirstModulusTwo();
        aWholeTableHasNoTwist();
        alsoIfItComesOutAlike();
        butNotSet();
        norARefusedOne();
        modulusStays();
        closedByModulus();
        coverByModulus();
        flatTwistsAreClosedByAnyModulus();
    }

    private static void atFirstModulusTwo() {
        sentence(0, "MODULUS k (2 .. 7; at first 2, all 0)");
        RackBench x = new RackBench();
        same("k", x.count(1), 2);
        same("v(0, 0)", x.twisted(0, 0), 0);
        yes("1 is a number by 2", x.twist(0, 0, 1));
        no("2 is none", x.twist(0, 0, 2));
    }

    private static void aWholeTableHasNoTwist() {
        sentence(0, "Each call that makes THE TABLE as a whole makes the TWIST all 0");
        RackBench x = told(EIGHT_ALONE);
        twistAll(x, 1);
        x.table(1);
        same("v(0, 0)", x.twisted(0, 0), 0);
        x.table(8);
        twistIsZero(x);
        x.twist(7, 7, 1);
        x.table(7);
        x.table(8);
        same("a cell that was out of use for a while", x.twisted(7, 7), 0);
    }

    /** Tables that a call makes once more as they stand; the call is told by its place. */
    private static RackBench aboutToComeOutAlike(int place) {
        RackBench x = new RackBench();
        x.keep(0);
        if (place == 1 || place == 2) {
            x.line(8, 1);
        } else if (place == 3) {
            x.group(23);
        } else {
            x.pick(4, 1, 2);
        }
        x.keep(1);
        return x;
    }

    private static void makeAlike(RackBench x, int place) {
        switch (place) {
            case 0: no("least()", x.least()); break;
            case 1: yes("line(8, 1)", x.line(8, 1)); break;
            case 2: yes("table(8)", x.table(8)); break;
            case 3: same("group(23)", x.group(23), 3); break;
            case 4: yes("pick(4, 1, 2)", x.pick(4, 1, 2)); break;
            case 5: same("fetch(1)", x.fetch(1), 4); break;
            case 6: same("times(0)", x.times(0), 4); break;
            case 7: same("part(3, 3)", x.part(3, 3), 4); break;
            default: yes("dual()", x.dual()); break;
        }
    }

    private static void alsoIfItComesOutAlike() {
        sentence(0, "also if it comes out alike");
        for (int place = 0; place <= 8; place++) {
            RackBench x = aboutToComeOutAlike(place);
            twistAll(x, 1);
            makeAlike(x, place);
            same("the table is alike", x.like(1), 1);
            twistIsZero(x);
        }
        RackBench x = turned(3, 4);
        x.twist(2, 2, 1);
        yes("turn(3, 4)", x.turn(3, 4));
        twistIsZero(x);
    }

    private static void butNotSet() {
        sentence(0, "not set()");
        RackBench x = lined(3, 2);
        x.twist(0, 1, 1);
        x.twist(2, 2, 1);
        yes("set to another number", x.set(0, 1, 0));
        yes("set back", x.set(0, 1, 2));
        yes("set to what it is", x.set(2, 2, 2));
        same("v(0, 1)", x.twisted(0, 1), 1);
        same("v(2, 2)", x.twisted(2, 2), 1);
    }

    private static void norARefusedOne() {
        sentence(0, "nor a refused one");
        RackBench x = told(TORN);
        twistAll(x, 1);
        no("table", x.table(9));
        no("line", x.line(3, 0));
        no("turn", x.turn(3, 6));
        same("group", x.group(24), NONE);
        same("fetch", x.fetch(0), NONE);
        no("dual", x.dual());
        same("times", x.times(0), NONE);
        same("part", x.part(0, 1), NONE);
        same("cover", x.cover(), NONE);
        no("pick", x.pick(3, 0, 6));
        no("modulus", x.modulus(8));
        for (int i = 0; i < 9; i++) {
            same("v", x.twisted(i / 3, i % 3), 1);
        }
    }

    private static void modulusStays() {
        sentence(0, "k stays");
        RackBench x = new RackBench();
        x.modulus(7);
        same("cover()", x.cover(), 7);
        same("k", x.count(1), 7);
        x.table(2);
        same("k", x.count(1), 7);
        x.line(2, 1);
        same("k", x.count(1), 7);
        x.turn(2, 1);
        same("k", x.count(1), 7);
        x.keep(0);
        x.times(0);
        same("k", x.count(1), 7);
        x.part(0, 3);
        same("k", x.count(1), 7);
        x.group(1);
        same("k", x.count(1), 7);
        x.least();
        same("k", x.count(1), 7);
        x.dual();
        same("k", x.count(1), 7);
        x.fetch(0);
        same("k", x.count(1), 7);
        x.pick(4, 0, 18);
        same("k", x.count(1), 7);
        yes("6 is a number by 7", x.twist(3, 3, 6));
    }

    private static void closedByModulus() {
        sentence(0, "v(b, c) + v(a, b:c) is v(a, c) + v(a:b, a:c) by k");
        RackBench x = turned(2, 1);
        x.twist(0, 0, 1);
        same("1 by 2", x.closed(), 1);
        x.twist(1, 0, 1);
        same("both rows alike", x.closed(), 0);
        RackBench y = lined(3, 2);
        y.modulus(3);
        // g is 1, 0, 2: v(a, b) = g(2a - b) - g(b).
        int[] v = {0, 2, 1, 1, 0, 2, 2, 1, 0};
        for (int i = 0; i < 9; i++) {
            y.twist(i / 3, i % 3, v[i]);
        }
        same("sums 3 apart, by 3", y.closed(), 0);
        RackBench z = lined(3, 2);
        z.modulus(4);
        for (int i = 0; i < 9; i++) {
            z.twist(i / 3, i % 3, v[i]);
        }
        same("sums 3 apart, by 4", z.closed(), 1);
    }

    private static void coverByModulus() {
        sentence(0, "j and v(a, b) by k");
        RackBench x = new RackBench();
        x.modulus(7);
        x.twist(0, 0, 6);
        same("cover()", x.cover(), 7);
        String row = "6012345";
        tableIs(x, String.join(" ", row, row, row, row, row, row, row));
        x.table(2);
        x.modulus(4);
        x.twist(1, 1, 3);
        same("cover()", x.cover(), 8);
        String still = "01234567";
        String turns = "01237456";
        tableIs(x, String.join(" ", still, still, still, still, turns, turns, turns, turns));
    }

    private static void flatTwistsAreClosedByAnyModulus() {
        sentence(0, "FLAT ones: v(a, b) = g(a:b) - g(b) by k");
        for (int k = 2; k <= 7; k++) {
            RackBench x = lined(5, 3);
            x.modulus(k);
            int[] g = {0, k - 1, 1, k - 1, 0};
            for (int a = 0; a < 5; a++) {
                for (int b = 0; b < 5; b++) {
                    x.twist(a, b, Math.floorMod(g[x.at(a, b)] - g[b], k));
                }
            }
            same("closed by " + k, x.closed(), 0);
            RackBench y = lined(5, 3);
            same("as many as n less the orbits", y.power(7, 1), 4);
        }
    }

    // ---- the terms: braids and the row

    private static void words() {
        atFirstTwoStrands();
        atMost24Letters();
        lettersBelowStrands();
        strandZeroIsTheFirst();
        contraryLetter();
        sumsByModulus();
        rowIsWhatWasToldLast();
        refusedCallsAnswer();
    }

    private static void atFirstTwoStrands() {
        sentence(0, "m STRANDS (2 .. 4, at first 2)");
        RackBench x = new RackBench();
        same("m", x.count(2), 2);
        same("no letter 2", x.letter(2), NONE);
        x.table(3);
        same("two strands alone", x.colours(), 9);
        yes("strands(4)", x.strands(4));
        same("four strands alone", x.colours(), 81);
    }

    private static void atMost24Letters() {
        sentence(0, "a WORD of at most 24 LETTERS");
        RackBench x = turned(8, 5913);
        // Things stand in a ring of eight; each strand turns once by two letters: 12 by all of them.
        for (int i = 1; i <= 24; i++) {
            same("letter", x.letter(1), i);
        }
        same("12 turns of a ring of eight", x.colours(), 0);
        same("25", x.letter(1), NONE);
        same("25", x.letter(-1), NONE);
        same("letters", x.count(3), 24);
        same("12 turns of a ring of eight", x.colours(), 0);
        x.turn(4, 9);
        same("12 turns of a ring of four", x.colours(), 16);
    }

    private static void lettersBelowStrands() {
        sentence(0, "LETTERS i or -i (i 1 .. m - 1)");
        for (int m = 2; m <= 4; m++) {
            for (int i = -6; i <= 6; i++) {
                RackBench x = new RackBench();
                x.strands(m);
                boolean fits = i != 0 && i > -m && i < m;
                same("letter " + i + " of " + m, x.letter(i), fits ? 1 : NONE);
                same("letters", x.count(3), fits ? 1 : 0);
            }
        }
    }

    private static void strandZeroIsTheFirst() {
        sentence(0, "on STRANDS i - 1 and i (0 the first)");
        RackBench x = turned(2, 1);
        // Letter 3 of four strands changes 2 and 3 alone: x y become y-turned and x, so none stays.
        word(x, 4, 3);
        same("the last two", x.colours(), 0);
        x.table(2);
        same("nothing moves: 2 and 3 are one", x.colours(), 8);
        word(x, 4, 1, 3);
        same("0, 1 and 2, 3", x.colours(), 4);
        word(x, 4, 1, 2, 3);
        same("all", x.colours(), 2);
    }

    private static void contraryLetter() {
        sentence(0, "LETTER -i: come y and that z for which y:z is x");
        RackBench x = lined(5, 2);
        word(x, 2, -1, 1);
        same("undone", x.colours(), 25);
        word(x, 2, 1, -1);
        same("undone", x.colours(), 25);
        word(x, 2, -1);
        same("y, z are x, y only if all are one", x.colours(), 5);
    }

    private static void sumsByModulus() {
        sentence(0, "Its SUM: v(x, y) for each LETTER i, less v(y, z) for each -i, by k");
        for (int k = 2; k <= 7; k++) {
            RackBench x = new RackBench();
            x.modulus(k);
            x.twist(0, 0, k - 1);
            for (int i = 1; i <= 24; i++) {
                x.letter(1);
                same(i + " times k - 1", x.sums(Math.floorMod(-i, k)), 1);
            }
            x.strands(2);
            for (int i = 1; i <= 24; i++) {
                x.letter(-1);
                same(i + " times less k - 1", x.sums(i % k), 1);
            }
        }
    }

    private static void rowIsWhatWasToldLast() {
        sentence(0, "ROW: numbers told last by a call that says so");
        RackBench x = new RackBench();
        rowIs(x);
        x.table(8);
        x.orbits();
        rowIs(x, 0, 1, 2, 3, 4, 5, 6, 7);
        x.within(4);
        rowIs(x, 2);
        same("a rack tells none", x.wrong(), 0);
        rowIs(x, 2);
        same("a closed twist tells none", x.closed(), 0);
        rowIs(x, 2);
        x.table(1);
        rowIs(x, 2);
    }

    private static void refusedCallsAnswer() {
        sentence(0, "Refused calls answer NONE, or false, and change nothing");
        RackBench x = told(TORN);
        x.within(2);
        same("NONE", RackBench.NONE, -1);
        same("orbits()", x.orbits(), -1);
        same("closed()", x.closed(), -1);
        same("within(0)", x.within(0), -1);
        rowIs(x, 1);
        no("dual()", x.dual());
        tableIs(x, TORN);
    }

    // ---- promises 1 to 10: tables

    private static void tables() {
        newObject();
        tableOfAnotherN();
        setOfNone();
        setAtTheEdges();
        atNone();
        lineOfAnotherN();
        lineByN();
        lineOfAnotherT();
        lineOfCommonPart();
        turnOfOthers();
        lastPermutation();
        groupOfAnotherP();
        groupsGreatest();
        keepOfAnother();
        keepIsFull();
        fetchOfAnother();
        fetchOfEmpty();
        countOfAnother();
        countAtTheEdges();
    }

    private static void newObject() {
        sentence(1, "n 1; nothing kept; no LETTERS");
        RackBench x = new RackBench();
        same("n", x.count(0), 1);
        same("letters", x.count(3), 0);
        same("the row", x.count(4), 0);
        for (int k = 0; k < 4; k++) {
            same("fetch", x.fetch(k), NONE);
            same("like", x.like(k), NONE);
            same("times", x.times(k), NONE);
        }
        RackBench y = lined(3, 2);
        y.keep(0);
        same("what another object keeps is not kept here", new RackBench().fetch(0), NONE);
    }

    private static void tableOfAnotherN() {
        sentence(2, "Refused: another n");
        for (int n : new int[] {0, 9, -1, 10, 16, 256, LOW, LOW + 1, HIGH, 1 << 29 | 1}) {
            RackBench x = told("10 01");
            no("table(" + n + ")", x.table(n));
            tableIs(x, "10 01");
        }
        for (int n = 1; n <= 8; n++) {
            RackBench x = told("10 01");
            yes("table(" + n + ")", x.table(n));
            tableIs(x, alone(n));
        }
    }

    private static void setOfNone() {
        sentence(3, "Refused: numbers that are none");
        for (int n = 1; n <= 8; n++) {
            RackBench x = turned(n, 0);
            for (int none : new int[] {-1, n, n + 1, LOW, HIGH}) {
                no("a " + none + " of " + n, x.set(none, 0, 0));
                no("b " + none + " of " + n, x.set(0, none, 0));
                no("v " + none + " of " + n, x.set(0, 0, none));
            }
            tableIs(x, alone(n));
        }
    }

    private static void setAtTheEdges() {
        sentence(3, "a:b becomes v: true");
        for (int n = 1; n <= 8; n++) {
            RackBench x = turned(n, 0);
            yes("the first cell", x.set(0, 0, n - 1));
            yes("the last cell", x.set(n - 1, n - 1, 0));
            yes("a cell as it is", x.set(n - 1, 0, 0));
            same("the first", x.at(0, 0), n - 1);
            same("the last", x.at(n - 1, n - 1), 0);
        }
    }

    private static void atNone() {
        sentence(4, "NoSuchElementException: none such");
        for (int n = 1; n <= 8; n++) {
            RackBench x = told(EIGHT_ALONE);
            x.table(n);
            for (int none : new int[] {-1, n, 8, 64, LOW, HIGH}) {
                yes("a " + none + " of " + n, atThrows(x, none, 0));
                yes("b " + none + " of " + n, atThrows(x, 0, none));
                yes("both " + none + " of " + n, atThrows(x, none, none));
            }
            no("the last", atThrows(x, n - 1, n - 1));
            same("the last", x.at(n - 1, n - 1), n - 1);
        }
    }

    private static void lineOfAnotherN() {
        sentence(5, "Refused: another n");
        RackBench x = told("10 01");
        for (int n : new int[] {0, -1, 9, 10, LOW, HIGH}) {
            no("line(" + n + ", 1)", x.line(n, 1));
            no("line(" + n + ", 0)", x.line(n, 0));
        }
        tableIs(x, "10 01");
        yes("line(1, 0)", x.line(1, 0));
        yes("line(8, 7)", x.line(8, 7));
    }

    private static void lineByN() {
        sentence(5, "a:b = (1 - t) a + t b by n");
        RackBench x = lined(8, 7);
        same("-6 * 7 by 8", x.at(7, 0), 6);
        same("-6 * 7 + 7 * 7 by 8", x.at(7, 7), 7);
        same("7 * 7 by 8", x.at(0, 7), 1);
        tableIs(lined(7, 1), alone(7));
        tableIs(lined(1, 0), "0");
        for (int n = 2; n <= 8; n++) {
            RackBench y = lined(n, n - 1);
            for (int a = 0; a < n; a++) {
                for (int b = 0; b < n; b++) {
                    same("2a - b", y.at(a, b), (2 * a - b + n) % n);
                }
            }
        }
    }

    private static void lineOfAnotherT() {
        sentence(5, "t not 0 .. n - 1");
        for (int n = 1; n <= 8; n++) {
            RackBench x = told("10 01");
            for (int t : new int[] {-1, n, n + 1, 1 - 2 * n, LOW, LOW + 1, HIGH}) {
                no("line(" + n + ", " + t + ")", x.line(n, t));
            }
            tableIs(x, "10 01");
        }
    }

    private static void lineOfCommonPart() {
        sentence(5, "t and n with a common part above 1 (n above 1)");
        String[] fitting = {"0", "1", "12", "13", "1234", "15", "123456", "1357"};
        for (int n = 1; n <= 8; n++) {
            for (int t = 0; t < n; t++) {
                RackBench x = told("10 01");
                boolean fits = fitting[n - 1].indexOf('0' + t) >= 0;
                same("line(" + n + ", " + t + ")", x.line(n, t) ? 1 : 0, fits ? 1 : 0);
                same("n", x.count(0), fits ? n : 2);
                same("a quandle", x.is(0), fits ? 1 : NONE);
            }
        }
    }

    private static void turnOfOthers() {
        sentence(6, "Refused: others");
        RackBench x = told("10 01");
        for (int n : new int[] {0, -1, 9, LOW, HIGH}) {
            no("turn(" + n + ", 0)", x.turn(n, 0));
        }
        for (int n = 1; n <= 8; n++) {
            for (int p : new int[] {-1, FACTORIALS[n], FACTORIALS[n] + 1, LOW, HIGH}) {
                no("turn(" + n + ", " + p + ")", x.turn(n, p));
            }
        }
        tableIs(x, "10 01");
    }

    private static void lastPermutation() {
        sentence(6, "P being PERMUTATION p of n things");
        for (int n = 1; n <= 8; n++) {
            RackBench x = turned(n, FACTORIALS[n] - 1);
            same("n", x.count(0), n);
            for (int b = 0; b < n; b++) {
                same("the last one sends b to n - 1 - b", x.at(n - 1, b), n - 1 - b);
            }
        }
        tableIs(turned(4, 23), "3210 3210 3210 3210");
        tableIs(turned(4, 22), "3201 3201 3201 3201");
        tableIs(turned(4, 6), "1023 1023 1023 1023");
        tableIs(turned(4, 5), "0321 0321 0321 0321");
    }

    private static void groupOfAnotherP() {
        sentence(7, "Refused: another p");
        RackBench x = told("10 01");
        for (int p : new int[] {-1, 24, 25, 40319, LOW, HIGH}) {
            same("group(" + p + ")", x.group(p), NONE);
        }
        tableIs(x, "10 01");
        same("group(0)", x.group(0), 1);
        same("group(23)", x.group(23), 3);
    }

    private static void groupsGreatest() {
        sentence(7, "all PERMUTATIONS of four things that are like PERMUTATION p, ascending by number");
        RackBench x = new RackBench();
        same("the one that moves nothing, alone", x.group(0), 1);
        tableIs(x, "0");
        same("two and two", x.group(16), 3);
        tableIs(x, alone(3));
        same("rings of three", x.group(20), 8);
        x.keep(0);
        same("the first ring of three", x.group(3), 8);
        same("one table for all of them", x.like(0), 1);
        same("rings of four", x.group(22), 6);
        // 9, 10, 13, 17, 18, 22 are 0123, 0132, 0231, 0213, 0321, 0312, each going round.
        tableIs(x, "053142 312450 512034 204315 035241 140325");
    }

    private static void keepOfAnother() {
        sentence(8, "Refused: another KEEP");
        RackBench x = told("10 01");
        for (int k : new int[] {-1, 4, 5, LOW, HIGH}) {
            no("keep(" + k + ")", x.keep(k));
        }
        for (int k = 0; k < 4; k++) {
            same("all are empty", x.fetch(k), NONE);
        }
        yes("keep(0)", x.keep(0));
        yes("keep(3)", x.keep(3));
    }

    private static void keepIsFull() {
        sentence(8, "THE TABLE is kept in a KEEP (0 .. 3)");
        RackBench x = new RackBench();
        for (int k = 0; k < 4; k++) {
            x.table(8 - k);
            x.set(0, 0, k);
            yes("keep", x.keep(k));
        }
        x.table(1);
        for (int k = 0; k < 4; k++) {
            same("fetch", x.fetch(k), 8 - k);
            same("its own cell", x.at(0, 0), k);
        }
        x.table(2);
        yes("a full one", x.keep(3));
        x.set(1, 1, 0);
        same("what is set later is not kept", x.fetch(3), 2);
        tableIs(x, "01 01");
    }

    private static void fetchOfAnother() {
        sentence(9, "Refused: another KEEP");
        RackBench x = told("10 01");
        for (int k = 0; k < 4; k++) {
            x.keep(k);
        }
        x.set(0, 0, 0);
        for (int k : new int[] {-1, 4, 5, LOW, HIGH}) {
            same("fetch(" + k + ")", x.fetch(k), NONE);
        }
        tableIs(x, "00 01");
        same("fetch(0)", x.fetch(0), 2);
        same("fetch(3)", x.fetch(3), 2);
        tableIs(x, "10 01");
    }

    private static void fetchOfEmpty() {
        sentence(9, "it is empty");
        for (int full = 0; full < 4; full++) {
            RackBench x = new RackBench();
            x.keep(full);
            x.table(2);
            for (int k = 0; k < 4; k++) {
                same("n", x.count(0), k <= full ? 2 : 1);
                same("fetch(" + k + ")", x.fetch(k), k == full ? 1 : NONE);
            }
        }
    }

    private static void countOfAnother() {
        sentence(10, "NONE for another what");
        RackBench x = lined(5, 2);
        for (int what : new int[] {-1, 5, 6, -5, LOW, HIGH}) {
            same("count(" + what + ")", x.count(what), NONE);
        }
        for (int what = 0; what <= 4; what++) {
            yes("count(" + what + ")", x.count(what) >= 0);
        }
    }

    private static void countAtTheEdges() {
        sentence(10, "What 0: n, 1: k, 2: STRANDS, 3: LETTERS, 4: numbers of the ROW");
        RackBench x = new RackBench();
        countsAre(x, 1, 2, 2, 0, 0);
        x.table(8);
        x.modulus(7);
        x.strands(4);
        for (int i = 0; i < 24; i++) {
            x.letter(3);
        }
        x.within(255);
        countsAre(x, 8, 7, 4, 24, 8);
    }

    private static void countsAre(RackBench x, int... due) {
        for (int what = 0; what < due.length; what++) {
            same("count(" + what + ")", x.count(what), due[what]);
        }
    }

    // ---- promises 11 to 17: what it is

    private static void judgements() {
        aRackIsNotWrong();
        firstAndLastTornRow();
        firstAndLastTriple();
        isOfNoRack();
        isAnother();
        isOfOneThing();
        orbitsOfNoRack();
        orbitsOfOneAndEight();
        movesOfNoRack();
        movesOfFewAndMany();
        keepersOfAnyTable();
        leastOfItsLeast();
        likeAnother();
        likeEmpty();
    }

    private static void aRackIsNotWrong() {
        sentence(11, "0: a RACK");
        RackBench x = new RackBench();
        same("one thing", x.wrong(), 0);
        rowIs(x);
        x.table(8);
        same("eight things", x.wrong(), 0);
        x.turn(8, 40319);
        same("eight things turned", x.wrong(), 0);
        rowIs(x);
    }

    private static void firstAndLastTornRow() {
        sentence(11, "1: a row that has not each number once: the ROW: the first such a");
        for (int n = 2; n <= 8; n++) {
            RackBench x = turned(n, 0);
            x.set(n - 1, n - 1, 0);
            same("the last row", x.wrong(), 1);
            rowIs(x, n - 1);
            x.set(n - 1, n - 1, n - 1);
            x.set(n - 1, 0, n - 1);
            same("the last row, by its first number", x.wrong(), 1);
            rowIs(x, n - 1);
            x.set(0, 0, 1);
            same("the first row", x.wrong(), 1);
            rowIs(x, 0);
        }
    }

    private static void firstAndLastTriple() {
        sentence(11, "2: else: the ROW: the first a, b, c for which a:(b:c) is another one");
        RackBench x = told("10 01");
        same("the first three", x.wrong(), 2);
        rowIs(x, 0, 0, 0);
        for (int n = 3; n <= 8; n++) {
            x.table(n);
            x.set(n - 1, n - 2, n - 1);
            x.set(n - 1, n - 1, n - 2);
            same("the last ones", x.wrong(), 2);
            rowIs(x, n - 1, n - 2, n - 2);
        }
    }

    private static void isOfNoRack() {
        sentence(12, "NONE: no RACK");
        for (int what = 0; what <= 4; what++) {
            same("a torn row", told(TORN).is(what), NONE);
            same("rows, but no rack", told(NO_RACK).is(what), NONE);
        }
    }

    private static void isAnother() {
        sentence(12, "another what");
        RackBench x = lined(3, 2);
        for (int what : new int[] {-1, 5, 6, LOW, HIGH}) {
            same("is(" + what + ")", x.is(what), NONE);
        }
        same("is(0)", x.is(0), 1);
        same("is(4)", x.is(4), 1);
    }

    private static void isOfOneThing() {
        sentence(12, "1, 0");
        RackBench x = new RackBench();
        for (int what = 0; what <= 4; what++) {
            same("one thing is " + what, x.is(what), 1);
        }
        x.table(8);
        int[] alone = {1, 1, 0, 0, 0};
        x.keep(0);
        for (int what = 0; what <= 4; what++) {
            same("eight alone are " + what, x.is(what), alone[what]);
        }
        // The last thing alone is turned to another, or turns another: the first ones tell nothing.
        lay(x, "01243 01243 01243 01243 01243");
        int[] turnedLast = {0, 1, 0, 0, 0};
        for (int what = 0; what <= 4; what++) {
            same("the last two change places: " + what, x.is(what), turnedLast[what]);
        }
        lay(x, "0123 0123 0123 1203");
        int[] turnsOthers = {1, 0, 0, 0, 0};
        for (int what = 0; what <= 4; what++) {
            same("the last one turns the others: " + what, x.is(what), turnsOthers[what]);
        }
    }

    private static void orbitsOfNoRack() {
        sentence(13, "NONE: no RACK");
        for (String rows : new String[] {TORN, NO_RACK}) {
            RackBench x = told(rows);
            x.within(1);
            same("orbits()", x.orbits(), NONE);
            rowIs(x, 0);
        }
    }

    private static void orbitsOfOneAndEight() {
        sentence(13, "How many ORBITS; the ROW: of each THING its ORBIT");
        RackBench x = new RackBench();
        same("one thing", x.orbits(), 1);
        rowIs(x, 0);
        x.table(8);
        same("eight alone", x.orbits(), 8);
        rowIs(x, 0, 1, 2, 3, 4, 5, 6, 7);
        x.turn(8, 5913);
        same("a ring of eight", x.orbits(), 1);
        rowIs(x, 0, 0, 0, 0, 0, 0, 0, 0);
        lay(x, "102 102 102");
        same("the number is not the least thing, but its place", x.orbits(), 2);
        rowIs(x, 0, 0, 1);
    }

    private static void movesOfNoRack() {
        sentence(14, "NONE: no RACK");
        same("a torn row", told(TORN).moves(), NONE);
        same("rows, but no rack", told(NO_RACK).moves(), NONE);
        same("rows, but no rack", told("10 01").moves(), NONE);
    }

    private static void movesOfFewAndMany() {
        sentence(14, "How many permutations ITS GROUP has");
        for (int n = 1; n <= 8; n++) {
            same("nothing moves", turned(n, 0).moves(), 1);
        }
        RackBench four = new RackBench();
        four.pick(4, 1, 6);
        same("the most: twice twelve, one for each of the other", beside(four, four).moves(), 144);
        same("the last of eight", turned(8, 40319).moves(), 2);
    }

    private static void keepersOfAnyTable() {
        sentence(15, "How many KEEPERS (of any table)");
        for (int n = 1; n <= 8; n++) {
            same("all of " + n, turned(n, 0).keepers(), FACTORIALS[n]);
        }
        RackBench x = told(EIGHT_ALONE);
        x.set(7, 7, 0);
        same("a torn row: 0 and 7 stay", x.keepers(), 720);
        same("rows, but no rack", told("10 01").keepers(), 1);
        same("rows, but no rack", told(NO_RACK).keepers(), 1);
        same("a torn row", told("000 000 000").keepers(), 2);
        same("a ring of eight", turned(8, 5913).keepers(), 8);
    }

    private static void leastOfItsLeast() {
        sentence(16, "true, if it was another one (false: it is alike)");
        RackBench x = new RackBench();
        no("one thing", x.least());
        x.table(8);
        no("eight alone", x.least());
        x.turn(8, 40319);
        yes("turned round", x.least());
        String row = "10325476";
        tableIs(x, String.join(" ", row, row, row, row, row, row, row, row));
        no("once more", x.least());
        lay(x, "012 012 011");
        yes("a torn row", x.least());
        tableIs(x, "012 002 012");
        no("once more", x.least());
    }

    private static void likeAnother() {
        sentence(17, "NONE: another KEEP");
        RackBench x = new RackBench();
        for (int k = 0; k < 4; k++) {
            x.keep(k);
        }
        for (int k : new int[] {-1, 4, 5, LOW, HIGH}) {
            same("like(" + k + ")", x.like(k), NONE);
        }
        same("like(0)", x.like(0), 1);
        same("like(3)", x.like(3), 1);
    }

    private static void likeEmpty() {
        sentence(17, "it is empty");
        for (int full = 0; full < 4; full++) {
            RackBench x = new RackBench();
            x.keep(full);
            for (int k = 0; k < 4; k++) {
                same("like(" + k + ")", x.like(k), k == full ? 1 : NONE);
            }
        }
    }

    // ---- promises 18 to 21: put together, taken apart

    private static void apart() {
        dualOfTornRow();
        dualOfAnyRows();
        timesAnother();
        timesEmpty();
        timesUpToEight();
        partOfNoRack();
        partOfNoThings();
        partOfOne();
        partDownToOne();
        withinOtherBits();
        withinNone();
        withinFull();
    }

    private static void dualOfTornRow() {
        sentence(18, "Refused: a row that has not each number once");
        for (String rows : new String[] {"002 012 012", "012 002 012", "012 012 002", "012 012 112", "00 00"}) {
            RackBench x = told(rows);
            no("dual()", x.dual());
            tableIs(x, rows);
        }
        RackBench x = told(EIGHT_ALONE);
        x.set(7, 7, 0);
        no("the last cell of eight", x.dual());
    }

    private static void dualOfAnyRows() {
        sentence(18, "a:b becomes that c for which a:c was b: true");
        RackBench x = new RackBench();
        yes("one thing", x.dual());
        tableIs(x, "0");
        lay(x, "120 012 201");
        yes("no rack", x.dual());
        tableIs(x, "201 012 120");
        x.turn(8, 5913);
        yes("a ring of eight", x.dual());
        same("turned back", x.at(7, 0), 7);
        same("turned back", x.at(0, 7), 6);
    }

    private static void timesAnother() {
        sentence(19, "Refused: another KEEP");
        RackBench x = told("10 01");
        for (int k = 0; k < 4; k++) {
            x.keep(k);
        }
        for (int k : new int[] {-1, 4, 5, LOW, HIGH}) {
            same("times(" + k + ")", x.times(k), NONE);
        }
        tableIs(x, "10 01");
        same("times(0)", x.times(0), 4);
        same("times(3)", x.times(3), 8);
    }

    private static void timesEmpty() {
        sentence(19, "it is empty");
        for (int full = 0; full < 4; full++) {
            for (int k = 0; k < 4; k++) {
                RackBench x = new RackBench();
                x.keep(full);
                x.table(2);
                same("times(" + k + ")", x.times(k), k == full ? 2 : NONE);
                tableIs(x, "01 01");
            }
        }
    }

    private static void timesUpToEight() {
        sentence(19, "n times m above 8");
        for (int n = 1; n <= 8; n++) {
            for (int m = 1; m <= 8; m++) {
                RackBench x = turned(m, FACTORIALS[m] - 1);
                x.keep(2);
                x.turn(n, FACTORIALS[n] - 1);
                same(n + " times " + m, x.times(2), n * m <= 8 ? n * m : NONE);
                int size = n * m <= 8 ? n * m : n;
                same("n", x.count(0), size);
                same("both turn round", x.at(size - 1, 0), size - 1);
            }
        }
    }

    private static void partOfNoRack() {
        sentence(20, "Refused: no RACK");
        for (String rows : new String[] {TORN, NO_RACK}) {
            RackBench x = told(rows);
            same("part(0, 1)", x.part(0, 1), NONE);
            same("part(0, 0)", x.part(0, 0), NONE);
            tableIs(x, rows);
        }
    }

    private static void partOfNoThings() {
        sentence(20, "no such THINGS");
        for (int n = 1; n <= 8; n++) {
            RackBench x = turned(n, 0);
            for (int none : new int[] {-1, n, 8, LOW, HIGH}) {
                same("a " + none + " of " + n, x.part(none, 0), NONE);
                same("b " + none + " of " + n, x.part(0, none), NONE);
                same("both " + none + " of " + n, x.part(none, none), NONE);
            }
            tableIs(x, alone(n));
            same("the first and the last", x.part(n - 1, 0), n == 1 ? 1 : n - 1);
        }
    }

    private static void partOfOne() {
        sentence(20, "THE RACK with a and b made one");
        RackBench x = lined(7, 3);
        x.keep(0);
        for (int a = 0; a < 7; a++) {
            same("part(a, a)", x.part(a, a), 7);
            same("the table stays", x.at(6, 0) * 10 + x.at(0, 6), 24);
        }
        RackBench one = new RackBench();
        same("one thing", one.part(0, 0), 1);
        tableIs(one, "0");
    }

    private static void partDownToOne() {
        sentence(20, "and all that must be one then; parts numbered by their least THINGS");
        for (int b = 1; b < 7; b++) {
            RackBench x = lined(7, 3);
            same("all seven", x.part(b, 0), 1);
            tableIs(x, "0");
        }
        RackBench x = lined(8, 5);
        same("what turns 0 turns 4", x.part(0, 4), 7);
        x.turn(8, 5913);
        same("a ring of eight: 0 and 4, 1 and 5, ..", x.part(4, 0), 4);
        tableIs(x, "1230 1230 1230 1230");
        x.turn(8, 5913);
        same("0 and 3: all", x.part(3, 0), 1);
        x.table(8);
        same("nothing else must be one", x.part(6, 7), 7);
        tableIs(x, alone(7));
    }

    private static void withinOtherBits() {
        sentence(21, "NONE: other bits");
        for (int n = 1; n <= 8; n++) {
            RackBench x = turned(n, 0);
            x.within(1);
            for (int bits : new int[] {1 << n, 1 << n | 1, 1 << 8, 1 << 30, -1, LOW, LOW | 1, HIGH}) {
                same("within(" + bits + ") of " + n, x.within(bits), NONE);
            }
            rowIs(x, 0);
            same("the last thing", x.within(1 << n - 1), 1);
            rowIs(x, n - 1);
            same("all", x.within((1 << n) - 1), n);
        }
    }

    private static void withinNone() {
        sentence(21, "0");
        for (int n = 1; n <= 8; n++) {
            RackBench x = turned(n, 0);
            same("within(0)", x.within(0), NONE);
            rowIs(x);
        }
    }

    private static void withinFull() {
        sentence(21, "the least set that has some and a:b with all a, b of it: the ROW: they, ascending");
        RackBench x = lined(8, 5);
        same("all eight", x.within(255), 8);
        rowIs(x, 0, 1, 2, 3, 4, 5, 6, 7);
        x.turn(8, 5913);
        same("one thing goes round to all", x.within(128), 8);
        rowIs(x, 0, 1, 2, 3, 4, 5, 6, 7);
        // No rack: 7:7 is 6, 6:6 is 5, .. each is found only behind the one before it.
        x.table(8);
        for (int a = 1; a < 8; a++) {
            x.set(a, a, a - 1);
        }
        same("step by step", x.within(128), 8);
        same("thing 0 alone", x.within(1), 1);
        rowIs(x, 0);
    }

    // ---- promises 22 to 27: twists

    private static void twists() {
        modulusOfAnother();
        modulusOnceMore();
        twistOfOthers();
        twistOfOtherNumbers();
        twistedOfNone();
        closedOfNoRack();
        closedAtTheLast();
        coverOfNoRack();
        coverOfOpen();
        coverUpToEight();
        powerOfNoRack();
        powerOfAnother();
        powerOfOtherModulus();
        powerOfFewAndMany();
    }

    private static void modulusOfAnother() {
        sentence(22, "Refused: another k");
        RackBench x = new RackBench();
        x.twist(0, 0, 1);
        for (int k : new int[] {1, 0, 8, 9, -1, -2, LOW, HIGH}) {
            no("modulus(" + k + ")", x.modulus(k));
            same("k stays", x.count(1), 2);
            same("the twist stays", x.twisted(0, 0), 1);
        }
        for (int k = 7; k >= 2; k--) {
            yes("modulus(" + k + ")", x.modulus(k));
            same("k", x.count(1), k);
        }
    }

    private static void modulusOnceMore() {
        sentence(22, "MODULUS k, the TWIST all 0: true");
        for (int k : new int[] {2, 7}) {
            RackBench x = turned(8, 40319);
            twistAll(x, 1);
            yes("the same k, and another", x.modulus(k));
            twistIsZero(x);
            same("the table stays", x.at(0, 0), 7);
        }
    }

    private static void twistOfOthers() {
        sentence(23, "Refused: others");
        for (int n = 1; n <= 8; n++) {
            RackBench x = turned(n, 0);
            for (int none : new int[] {-1, n, 8, 64, LOW, HIGH}) {
                no("a " + none + " of " + n, x.twist(none, 0, 1));
                no("b " + none + " of " + n, x.twist(0, none, 1));
            }
            twistIsZero(x);
            yes("the last cell", x.twist(n - 1, n - 1, 1));
            same("the last cell", x.twisted(n - 1, n - 1), 1);
        }
    }

    private static void twistOfOtherNumbers() {
        sentence(23, "v(a, b) becomes v (0 .. k - 1)");
        for (int k = 2; k <= 7; k++) {
            RackBench x = lined(3, 2);
            x.modulus(k);
            for (int v : new int[] {-1, k, k + 1, 8, -k, LOW, HIGH}) {
                no("v " + v + " by " + k, x.twist(2, 1, v));
                same("v(2, 1)", x.twisted(2, 1), 0);
            }
            yes("the greatest", x.twist(2, 1, k - 1));
            same("v(2, 1)", x.twisted(2, 1), k - 1);
            yes("the least", x.twist(2, 1, 0));
            same("v(2, 1)", x.twisted(2, 1), 0);
        }
    }

    private static void twistedOfNone() {
        sentence(24, "NONE: none such");
        for (int n = 1; n <= 8; n++) {
            RackBench x = told(EIGHT_ALONE);
            x.table(n);
            for (int none : new int[] {-1, n, 8, 64, LOW, HIGH}) {
                same("a " + none + " of " + n, x.twisted(none, 0), NONE);
                same("b " + none + " of " + n, x.twisted(0, none), NONE);
                same("both " + none + " of " + n, x.twisted(none, none), NONE);
            }
            same("the last", x.twisted(n - 1, n - 1), 0);
        }
    }

    private static void closedOfNoRack() {
        sentence(25, "NONE: no RACK");
        for (String rows : new String[] {TORN, NO_RACK}) {
            RackBench x = told(rows);
            x.within(1);
            same("all 0", x.closed(), NONE);
            twistAll(x, 1);
            same("all 1", x.closed(), NONE);
            rowIs(x, 0);
        }
    }

    private static void closedAtTheLast() {
        sentence(25, "1: else: the ROW: the first a, b, c for which it is not so");
        RackBench one = new RackBench();
        one.twist(0, 0, 1);
        same("one thing: any twist", one.closed(), 0);
        rowIs(one);
        RackBench x = turned(2, 1);
        x.twist(0, 1, 1);
        same("the first three", x.closed(), 1);
        rowIs(x, 0, 0, 0);
        // The last thing makes 1 of 0 and nothing else: v(0, last) must be v(1, last).
        for (int n = 3; n <= 8; n++) {
            x.table(n);
            x.set(n - 1, 0, 1);
            x.set(n - 1, 1, 0);
            same("all 0", x.closed(), 0);
            x.twist(0, n - 1, 1);
            same("the last ones", x.closed(), 1);
            rowIs(x, n - 1, 0, n - 1);
            x.twist(1, n - 1, 1);
            same("both", x.closed(), 0);
        }
    }

    private static void coverOfNoRack() {
        sentence(26, "Refused: no RACK");
        for (String rows : new String[] {TORN, NO_RACK, "10 01", "00 01"}) {
            RackBench x = told(rows);
            same("cover()", x.cover(), NONE);
            tableIs(x, rows);
        }
    }

    private static void coverOfOpen() {
        sentence(26, "the TWIST is not CLOSED");
        RackBench x = turned(2, 1);
        x.twist(0, 1, 1);
        same("cover()", x.cover(), NONE);
        tableIs(x, "10 10");
        same("v(0, 1)", x.twisted(0, 1), 1);
        x.twist(1, 1, 1);
        same("closed now", x.cover(), 4);
        tableIs(x, "2310 2310 2310 2310");
    }

    private static void coverUpToEight() {
        sentence(26, "n times k above 8");
        for (int n = 1; n <= 8; n++) {
            for (int k = 2; k <= 7; k++) {
                RackBench x = turned(n, FACTORIALS[n] - 1);
                x.modulus(k);
                twistAll(x, k - 1);
                boolean fits = n * k <= 8;
                same(n + " by " + k, x.cover(), fits ? n * k : NONE);
                same("n", x.count(0), fits ? n * k : n);
                same("the twist", x.twisted(n - 1, n - 1), fits ? 0 : k - 1);
                same("a rack", x.wrong(), 0);
            }
        }
    }

    private static void powerOfNoRack() {
        sentence(27, "NONE: no RACK");
        for (String rows : new String[] {TORN, NO_RACK}) {
            RackBench x = told(rows);
            for (int p : new int[] {2, 3, 5, 7}) {
                same("power(" + p + ", 0)", x.power(p, 0), NONE);
                same("power(" + p + ", 1)", x.power(p, 1), NONE);
            }
        }
    }

    private static void powerOfAnother() {
        sentence(27, "another p, what");
        RackBench x = lined(3, 2);
        for (int p : new int[] {-7, -3, -2, -1, 0, 1, 4, 6, 8, 9, 10, 11, 13, LOW, HIGH}) {
            same("power(" + p + ", 0)", x.power(p, 0), NONE);
            same("power(" + p + ", 1)", x.power(p, 1), NONE);
        }
        for (int p : new int[] {2, 3, 5, 7}) {
            for (int what : new int[] {-1, 2, 3, LOW, HIGH}) {
                same("power(" + p + ", " + what + ")", x.power(p, what), NONE);
            }
            same("power(" + p + ", 0)", x.power(p, 0), 3);
            same("power(" + p + ", 1)", x.power(p, 1), 2);
        }
    }

    private static void powerOfOtherModulus() {
        sentence(27, "that of the TWIST doesn't matter");
        for (int k = 2; k <= 7; k++) {
            RackBench x = new RackBench();
            x.pick(4, 1, 6);
            x.modulus(k);
            x.twist(0, 1, 1);
            same("by 2", x.power(2, 0), 5);
            same("by 3", x.power(3, 0), 4);
            same("by 7", x.power(7, 0), 4);
            same("flat", x.power(5, 1), 3);
            same("the twist stays", x.twisted(0, 1), 1);
            same("k stays", x.count(1), k);
        }
    }

    private static void powerOfFewAndMany() {
        sentence(27, "what 0: of CLOSED TWISTS there are p to the power of this, 1: of FLAT ones");
        for (int n = 1; n <= 8; n++) {
            RackBench x = turned(n, 0);
            for (int p : new int[] {2, 3, 5, 7}) {
                same("nothing moves: any twist is closed", x.power(p, 0), n * n);
                same("nothing moves: one is flat", x.power(p, 1), 0);
            }
        }
        same("a ring of eight", turned(8, 5913).power(7, 1), 7);
    }

    // ---- promises 28 to 31: braids

    private static void braids() {
        strandsOfAnother();
        strandsWithoutLetters();
        letterOfNone();
        letterBehind24();
        coloursOfNoRack();
        coloursOfFewAndMany();
        sumsOfNoRack();
        sumsOfNone();
        sumsOfAnyTwist();
    }

    private static void strandsOfAnother() {
        sentence(28, "Refused: another m");
        RackBench x = new RackBench();
        word(x, 3, 1, -2);
        for (int m : new int[] {1, 0, 5, 6, -1, -2, -3, LOW, HIGH}) {
            no("strands(" + m + ")", x.strands(m));
            same("m stays", x.count(2), 3);
            same("letters stay", x.count(3), 2);
        }
        yes("strands(2)", x.strands(2));
        yes("strands(4)", x.strands(4));
    }

    private static void strandsWithoutLetters() {
        sentence(28, "A BRAID of m STRANDS, without LETTERS");
        RackBench x = turned(2, 1);
        for (int m = 2; m <= 4; m++) {
            word(x, m, 1);
            same("a kink", x.colours(), 0);
            yes("as many strands once more", x.strands(m));
            same("m", x.count(2), m);
            same("letters", x.count(3), 0);
            same("all", x.colours(), 1 << m);
        }
    }

    private static void letterOfNone() {
        sentence(29, "Refused: none such");
        for (int m = 2; m <= 4; m++) {
            RackBench x = new RackBench();
            x.strands(m);
            for (int i : new int[] {0, m, -m, m + 1, -m - 1, LOW, LOW + 1, HIGH}) {
                same("letter(" + i + ") of " + m, x.letter(i), NONE);
                same("letters", x.count(3), 0);
            }
            same("the greatest", x.letter(m - 1), 1);
            same("the least", x.letter(1 - m), 2);
        }
    }

    private static void letterBehind24() {
        sentence(29, "24");
        for (int m = 2; m <= 4; m++) {
            RackBench x = new RackBench();
            x.strands(m);
            for (int i = 1; i <= 24; i++) {
                same("letter " + i, x.letter(m - 1), i);
            }
            same("letter 25", x.letter(1), NONE);
            same("letter 25", x.letter(1 - m), NONE);
            same("letters", x.count(3), 24);
            x.strands(m);
            same("there is room again", x.letter(1), 1);
        }
    }

    private static void coloursOfNoRack() {
        sentence(30, "NONE: no RACK");
        for (String rows : new String[] {TORN, NO_RACK}) {
            RackBench x = told(rows);
            same("no letters", x.colours(), NONE);
            word(x, 3, 1, -2);
            same("two letters", x.colours(), NONE);
        }
    }

    private static void coloursOfFewAndMany() {
        sentence(30, "How many COLOURINGS");
        for (int m = 2; m <= 4; m++) {
            int all = 1;
            for (int n = 1; n <= 8; n++) {
                all = (int) Math.pow(n, m);
                RackBench x = turned(n, FACTORIALS[n] - 1);
                x.strands(m);
                same(n + " things, " + m + " strands, no letters", x.colours(), all);
            }
            same("the most", all, 1 << 3 * m);
        }
        RackBench x = turned(8, 40319);
        x.strands(4);
        for (int i = 0; i < 24; i++) {
            x.letter(i % 2 == 0 ? 3 : -3);
        }
        same("24 letters undone", x.colours(), 4096);
    }

    private static void sumsOfNoRack() {
        sentence(31, "NONE: no RACK");
        for (String rows : new String[] {TORN, NO_RACK}) {
            RackBench x = told(rows);
            same("sums(0)", x.sums(0), NONE);
            same("sums(1)", x.sums(1), NONE);
        }
    }

    private static void sumsOfNone() {
        sentence(31, "no such SUM");
        for (int k = 2; k <= 7; k++) {
            RackBench x = lined(3, 2);
            x.modulus(k);
            for (int sum : new int[] {-1, k, k + 1, -k, 8, LOW, HIGH}) {
                same("sums(" + sum + ") by " + k, x.sums(sum), NONE);
            }
            same("the least", x.sums(0), 9);
            same("the greatest", x.sums(k - 1), 0);
        }
    }

    private static void sumsOfAnyTwist() {
        sentence(31, "the TWIST may be any");
        RackBench x = turned(2, 1);
        x.modulus(5);
        x.twist(0, 1, 4);
        same("it is not closed", x.closed(), 1);
        x.strands(2);
        for (int i = 0; i < 4; i++) {
            x.letter(1);
        }
        // Four letters lead through 0 0, 1 0, 0 1, 1 1 in some order: v(0, 1) comes once for each.
        same("all have sum 4", x.sums(4), 4);
        same("none has sum 0", x.sums(0), 0);
    }

    // ---- promises 32 to 34: lists

    private static void lists() {
        listedOthers();
        listedAtTheEdges();
        pickOfNone();
        pickTheLast();
        rowOfNone();
        rowFullAndEmpty();
    }

    private static void listedOthers() {
        sentence(32, "NONE: others");
        RackBench x = new RackBench();
        for (int n : new int[] {0, 5, 6, -1, 8, LOW, HIGH}) {
            same("listed(" + n + ", 0)", x.listed(n, 0), NONE);
            same("listed(" + n + ", 1)", x.listed(n, 1), NONE);
        }
        for (int n = 1; n <= 4; n++) {
            for (int what : new int[] {-1, 2, 3, LOW, HIGH}) {
                same("listed(" + n + ", " + what + ")", x.listed(n, what), NONE);
            }
        }
    }

    private static void listedAtTheEdges() {
        sentence(32, "RACKS (what 0), QUANDLES (1) of n THINGS (1 .. 4)");
        int[][] due = {{1, 1}, {2, 1}, {6, 3}, {19, 7}};
        for (int n = 1; n <= 4; n++) {
            for (int what = 0; what <= 1; what++) {
                RackBench x = lined(7, 3);
                same("listed", x.listed(n, what), due[n - 1][what]);
                same("listed once more", x.listed(n, what), due[n - 1][what]);
                same("the table stays", x.count(0), 7);
            }
        }
    }

    private static void pickOfNone() {
        sentence(33, "Refused: none such");
        int[][] sizes = {{1, 1}, {2, 1}, {6, 3}, {19, 7}};
        for (int n = 1; n <= 4; n++) {
            for (int what = 0; what <= 1; what++) {
                RackBench x = told("10 01");
                int size = sizes[n - 1][what];
                for (int i : new int[] {-1, size, size + 1, LOW, HIGH}) {
                    no("pick(" + n + ", " + what + ", " + i + ")", x.pick(n, what, i));
                }
                for (int other : new int[] {-1, 2, LOW, HIGH}) {
                    no("pick(" + n + ", " + other + ", 0)", x.pick(n, other, 0));
                }
                tableIs(x, "10 01");
            }
        }
        RackBench x = told("10 01");
        for (int n : new int[] {0, -1, 5, 8, LOW, HIGH}) {
            no("pick(" + n + ", 0, 0)", x.pick(n, 0, 0));
        }
        tableIs(x, "10 01");
    }

    private static void pickTheLast() {
        sentence(33, "the i-th of these LEAST ones, in order");
        String[][] last = {{"0", "0"}, {"10 10", "01 01"}, {"120 120 120", "021 210 102"},
            {"1230 1230 1230 1230", "0231 3102 1320 2013"}};
        int[][] sizes = {{1, 1}, {2, 1}, {6, 3}, {19, 7}};
        for (int n = 1; n <= 4; n++) {
            for (int what = 0; what <= 1; what++) {
                RackBench x = new RackBench();
                yes("the first", x.pick(n, what, 0));
                tableIs(x, alone(n));
                yes("the last", x.pick(n, what, sizes[n - 1][what] - 1));
                tableIs(x, last[n - 1][what]);
            }
        }
    }

    private static void rowOfNone() {
        sentence(34, "NoSuchElementException: none such");
        RackBench x = new RackBench();
        for (int i : new int[] {0, 1, -1, LOW, HIGH}) {
            yes("an empty row", rowThrows(x, i));
        }
        for (int n = 1; n <= 8; n++) {
            x.table(n);
            x.within((1 << n) - 1);
            for (int i : new int[] {-1, n, n + 1, 8, LOW, HIGH}) {
                yes("row(" + i + ") of " + n, rowThrows(x, i));
            }
            same("the last", x.row(n - 1), n - 1);
        }
    }

    private static void rowFullAndEmpty() {
        sentence(34, "Number i of the ROW");
        RackBench x = told(EIGHT_ALONE);
        x.within(255);
        rowIs(x, 0, 1, 2, 3, 4, 5, 6, 7);
        x.within(128);
        rowIs(x, 7);
        x.set(3, 3, 0);
        same("a torn row", x.wrong(), 1);
        rowIs(x, 3);
        x.keep(0);
        x.fetch(0);
        x.modulus(3);
        x.strands(4);
        rowIs(x, 3);
    }
}
