import java.util.Collections;

/** Each promise of the document, by number, with answers that were worked out by hand. */
public final class PromiseTest extends Checks {
    private static final int[] FAR = {-1, Integer.MIN_VALUE, Integer.MAX_VALUE};

    public static void main(String[] args) {
        newObject();
        table();
        set();
        at();
        line();
        turn();
        group();
        keep();
        fetch();
        count();
        wrong();
        is();
        orbits();
        moves();
        keepers();
        least();
        like();
        dual();
        times();
        part();
        within();
        modulus();
        twist();
        twisted();
        closed();
        cover();
        power();
        strands();
        letter();
        colours();
        sums();
        listed();
        pick();
        row();
        refusedCallsChangeNothing();
        end("PromiseTest");
    }

    // ---- the promises

    private static void newObject() {
        where = "promise 1";
        RackBench x = new RackBench();
        same("NONE", RackBench.NONE, NONE);
        int[] due = {1, 2, 2, 0, 0};
        for (int what = 0; what < due.length; what++) {
            same("count(" + what + ")", x.count(what), due[what]);
        }
        tableIs(x, "0");
        same("twisted(0, 0)", x.twisted(0, 0), 0);
        for (int k = 0; k < 4; k++) {
            same("fetch", x.fetch(k), NONE);
            same("like", x.like(k), NONE);
            same("times", x.times(k), NONE);
        }
        yes("row(0) throws", rowThrows(x, 0));
        same("colours()", x.colours(), 1);
    }

    private static void table() {
        where = "promise 2";
        RackBench x = new RackBench();
        for (int n = 1; n <= 8; n++) {
            yes("table", x.table(n));
            same("n", x.count(0), n);
            for (int a = 0; a < n; a++) {
                for (int b = 0; b < n; b++) {
                    same("a:b", x.at(a, b), b);
                }
            }
        }
        RackBench y = told("10 10");
        y.twist(1, 0, 1);
        for (int n : new int[] {0, 9, -1, -8, Integer.MIN_VALUE, Integer.MAX_VALUE}) {
            no("table(" + n + ")", y.table(n));
        }
        tableIs(y, "10 10");
        same("the twist stays", y.twisted(1, 0), 1);
        yes("table(2)", y.table(2));
        tableIs(y, "01 01");
        same("the twist is 0", y.twisted(1, 0), 0);
    }

    private static void set() {
        where = "promise 3";
        RackBench x = new RackBench();
        x.table(3);
        x.twist(0, 1, 1);
        yes("set", x.set(2, 0, 1));
        yes("set", x.set(0, 2, 0));
        tableIs(x, "010 012 112");
        same("the twist stays", x.twisted(0, 1), 1);
        for (int far : new int[] {-1, 3, 8, Integer.MIN_VALUE, Integer.MAX_VALUE}) {
            no("a", x.set(far, 0, 0));
            no("b", x.set(0, far, 0));
            no("v", x.set(0, 0, far));
        }
        tableIs(x, "010 012 112");
    }

    private static void at() {
        where = "promise 4";
        RackBench x = told("120 201 012");
        same("at(0, 2)", x.at(0, 2), 0);
        same("at(2, 0)", x.at(2, 0), 0);
        same("at(1, 0)", x.at(1, 0), 2);
        for (int far : new int[] {-1, 3, 7, 8, 64, Integer.MIN_VALUE, Integer.MAX_VALUE}) {
            yes("at throws for a", atThrows(x, far, 0));
            yes("at throws for b", atThrows(x, 0, far));
        }
        no("at(2, 2) throws", atThrows(x, 2, 2));
    }

    private static void line() {
        where = "promise 5";
        tableIs(lined(3, 2), "021 210 102");
        tableIs(lined(4, 3), "0321 2103 0321 2103");
        tableIs(lined(5, 2), "02413 41302 30241 24130 13024");
        tableIs(lined(2, 1), "01 01");
        RackBench x = new RackBench();
        yes("line(1, 0)", x.line(1, 0));
        no("line(1, 1)", x.line(1, 1));
        x.table(2);
        x.twist(0, 1, 1);
        int[][] refused = {{0, 0}, {9, 1}, {-1, 0}, {3, 0}, {3, 3}, {3, -1}, {4, 2}, {6, 2}, {6, 3}, {6, 4},
            {8, 6}, {8, 0}, {5, 5}, {5, Integer.MIN_VALUE}, {Integer.MAX_VALUE, 1}, {Integer.MIN_VALUE, 0}};
        for (int[] r : refused) {
            no("line(" + r[0] + ", " + r[1] + ")", x.line(r[0], r[1]));
        }
        same("the twist stays", x.twisted(0, 1), 1);
        yes("line(2, 1)", x.line(2, 1));
        same("the twist is 0", x.twisted(0, 1), 0);
        int racks = 0;
        for (int n = 1; n <= 8; n++) {
            for (int t = 0; t < n; t++) {
                racks += x.line(n, t) && x.is(0) == 1 ? 1 : 0;
            }
        }
        same("lines", racks, 22);
    }

    private static void turn() {
        where = "promise 6";
        String[] three = {"012", "021", "102", "120", "201", "210"};
        for (int p = 0; p < 6; p++) {
            tableIs(turned(3, p), three[p] + " " + three[p] + " " + three[p]);
        }
        tableIs(turned(1, 0), "0");
        RackBench x = turned(8, 40319);
        same("the last one of eight", x.at(0, 0) * 10 + x.at(7, 7), 70);
        x.turn(8, 5040);
        same("the first one that moves 0", x.at(3, 0) * 100 + x.at(3, 1) * 10 + x.at(3, 7), 107);
        x.twist(0, 1, 1);
        int[][] refused = {{0, 0}, {9, 0}, {1, 1}, {3, 6}, {3, -1}, {8, 40320}, {-1, 0}, {4, 24}};
        for (int[] r : refused) {
            no("turn(" + r[0] + ", " + r[1] + ")", x.turn(r[0], r[1]));
        }
        for (int far : FAR) {
            no("turn", x.turn(far, 0));
            no("turn", x.turn(4, far));
        }
        same("n stays", x.count(0), 8);
        same("the twist stays", x.twisted(0, 1), 1);
        yes("turn(8, 0)", x.turn(8, 0));
        same("the twist is 0", x.twisted(0, 1), 0);
    }

    private static void group() {
        where = "promise 7";
        RackBench x = new RackBench();
        int[] sizes = {1, 6, 6, 8, 8, 6, 6, 3, 8, 6, 6, 8, 8, 6, 6, 8, 3, 6, 6, 8, 8, 6, 6, 3};
        for (int p = 0; p < 24; p++) {
            same("group(" + p + ")", x.group(p), sizes[p]);
            same("a quandle", x.is(0), 1);
        }
        x.group(1);
        // 23, 12, 13, 01, 02, 03 change places: 23 makes 13 of 12.
        tableIs(x, "021354 210435 102543 045312 532140 413205");
        x.group(3);
        // Thing 0 is the cycle 1 2 3, thing 2 is 0 1 2: it becomes 0 2 3, thing 5.
        same("a cycle turns a cycle", x.at(0, 2), 5);
        same("and the contrary one", x.at(1, 5), 2);
        x.twist(0, 0, 1);
        for (int far : new int[] {-1, 24, Integer.MIN_VALUE, Integer.MAX_VALUE}) {
            same("group", x.group(far), NONE);
        }
        same("n stays", x.count(0), 8);
        same("the twist stays", x.twisted(0, 0), 1);
        x.group(3);
        same("the twist is 0", x.twisted(0, 0), 0);
    }

    private static void keep() {
        where = "promise 8";
        RackBench x = lined(3, 2);
        x.twist(0, 1, 1);
        yes("keep(0)", x.keep(0));
        yes("keep(3)", x.keep(3));
        same("the twist stays", x.twisted(0, 1), 1);
        for (int far : new int[] {-1, 4, Integer.MIN_VALUE, Integer.MAX_VALUE}) {
            no("keep", x.keep(far));
        }
        x.set(0, 0, 1);
        same("fetch(3)", x.fetch(3), 3);
        tableIs(x, "021 210 102");
        x.table(2);
        yes("keep(0) again", x.keep(0));
        same("fetch(3)", x.fetch(3), 3);
        same("fetch(0)", x.fetch(0), 2);
        same("fetch(1)", x.fetch(1), NONE);
    }

    private static void fetch() {
        where = "promise 9";
        RackBench x = told("11 01");
        x.keep(2);
        x.modulus(5);
        x.twist(1, 1, 4);
        for (int far : new int[] {-1, 0, 1, 3, 4, Integer.MIN_VALUE, Integer.MAX_VALUE}) {
            same("fetch(" + far + ")", x.fetch(far), NONE);
        }
        same("the twist stays", x.twisted(1, 1), 4);
        same("fetch(2)", x.fetch(2), 2);
        same("the twist is 0, though the table is alike", x.twisted(1, 1), 0);
        same("k stays", x.count(1), 5);
        x.set(0, 0, 0);
        same("fetch(2)", x.fetch(2), 2);
        tableIs(x, "11 01");
    }

    private static void count() {
        where = "promise 10";
        RackBench x = lined(5, 2);
        x.modulus(7);
        word(x, 4, 1, -3, 2);
        x.within(6);
        int[] due = {5, 7, 4, 3, 5};
        for (int what = 0; what < due.length; what++) {
            same("count(" + what + ")", x.count(what), due[what]);
        }
        for (int far : new int[] {-1, 5, -2, Integer.MIN_VALUE, Integer.MAX_VALUE}) {
            same("count(" + far + ")", x.count(far), NONE);
        }
    }

    private static void wrong() {
        where = "promise 11";
        RackBench x = told("012 112 000");
        same("wrong()", x.wrong(), 1);
        rowIs(x, 1);
        lay(x, "012 021 012");
        same("wrong()", x.wrong(), 2);
        rowIs(x, 1, 1, 1);
        lay(x, "210 012 112");
        same("a torn row comes ahead of what rows before it do", x.wrong(), 1);
        rowIs(x, 2);
        x.line(8, 5);
        same("wrong()", x.wrong(), 0);
        rowIs(x, 2);
        lay(x, "0123 0123 0123 3120");
        same("wrong()", x.wrong(), 2);
        rowIs(x, 3, 0, 0);
    }

    private static void is() {
        where = "promise 12";
        answersOf(new RackBench(), 1, 1, 1, 1, 1);
        answersOf(told("012 012 012"), 1, 1, 0, 0, 0);
        answersOf(lined(3, 2), 1, 1, 1, 1, 1);
        answersOf(lined(5, 2), 1, 0, 1, 1, 1);
        answersOf(lined(4, 3), 1, 1, 0, 0, 0);
        answersOf(turned(3, 3), 0, 0, 1, 0, 0);
        answersOf(told("0231 0123 0123 0123"), 1, 0, 0, 0, 0);
        answersOf(turned(2, 1), 0, 1, 1, 0, 0);
        RackBench x = new RackBench();
        x.group(1);
        answersOf(x, 1, 1, 1, 1, 0);
        x.group(3);
        answersOf(x, 1, 0, 0, 1, 0);
        answersOf(told("00 01"), NONE, NONE, NONE, NONE, NONE);
        answersOf(told("012 021 012"), NONE, NONE, NONE, NONE, NONE);
        for (int far : new int[] {-1, 5, Integer.MIN_VALUE, Integer.MAX_VALUE}) {
            same("is(" + far + ")", x.is(far), NONE);
        }
        x.within(3);
        int told = x.count(4);
        x.is(2);
        same("is tells no row", x.count(4), told);
    }

    private static void answersOf(RackBench x, int... due) {
        for (int what = 0; what < due.length; what++) {
            same("is(" + what + ")", x.is(what), due[what]);
        }
    }

    private static void orbits() {
        where = "promise 13";
        RackBench x = turned(3, 2);
        same("orbits()", x.orbits(), 2);
        rowIs(x, 0, 0, 1);
        x.turn(4, 23);
        same("orbits()", x.orbits(), 2);
        rowIs(x, 0, 1, 1, 0);
        x.line(8, 5);
        same("orbits()", x.orbits(), 4);
        rowIs(x, 0, 1, 2, 3, 0, 1, 2, 3);
        x.line(7, 3);
        same("orbits()", x.orbits(), 1);
        rowIs(x, 0, 0, 0, 0, 0, 0, 0);
        x.set(0, 0, 1);
        same("orbits() of no rack", x.orbits(), NONE);
        rowIs(x, 0, 0, 0, 0, 0, 0, 0);
    }

    private static void moves() {
        where = "promise 14";
        RackBench tetra = new RackBench();
        tetra.pick(4, 1, 6);
        same("A4", tetra.moves(), 12);
        same("A4 and A4", beside(tetra, tetra).moves(), 144);
        same("S3 and S3", beside(lined(3, 2), lined(3, 2)).moves(), 36);
        same("20 and 6", beside(lined(5, 2), lined(3, 2)).moves(), 120);
        same("42", lined(7, 3).moves(), 42);
        same("eight in a ring", turned(8, 5913).moves(), 8);
        same("a ring of three, one of five",
                told(String.join(" ", Collections.nCopies(8, "12045673"))).moves(), 15);
        same("only 0 moves any", told("0231 0123 0123 0123").moves(), 3);
        same("nothing moves", told("0123 0123 0123 0123").moves(), 1);
        RackBench x = new RackBench();
        x.group(1);
        same("S4", x.moves(), 24);
        same("no rack", told("11 01").moves(), NONE);
        same("no rack", told("012 021 012").moves(), NONE);
    }

    private static void keepers() {
        where = "promise 15";
        RackBench x = new RackBench();
        int due = 1;
        for (int n = 1; n <= 8; n++) {
            due *= n;
            x.table(n);
            same("all of " + n, x.keepers(), due);
        }
        same("lines", lined(8, 3).keepers(), 32);
        same("lines", lined(7, 2).keepers(), 42);
        same("no rack: all to 0", told("000 000 000").keepers(), 2);
        same("no rack: each to itself", told("000 111 222").keepers(), 6);
        same("no rack: one cell alone", told("010 012 012").keepers(), 1);
        same("turns", turned(4, 7).keepers(), 8);
    }

    private static void least() {
        where = "promise 16";
        RackBench x = turned(3, 2);
        yes("another one", x.least());
        tableIs(x, "021 021 021");
        x.twist(1, 1, 1);
        no("alike", x.least());
        tableIs(x, "021 021 021");
        same("the twist is 0, though it is alike", x.twisted(1, 1), 0);
        lay(x, "11 11");
        yes("no rack", x.least());
        tableIs(x, "00 00");
        lay(x, "222 222 220");
        yes("no rack", x.least());
        tableIs(x, "100 000 000");
        x.line(4, 3);
        yes("a line", x.least());
        tableIs(x, "0132 0132 1023 1023");
        x.table(8);
        no("all alike", x.least());
    }

    private static void like() {
        where = "promise 17";
        RackBench x = turned(3, 2);
        x.keep(1);
        same("itself", x.like(1), 1);
        x.turn(3, 5);
        same("by other names", x.like(1), 1);
        x.turn(3, 3);
        same("another one", x.like(1), 0);
        x.turn(4, 1);
        same("another n", x.like(1), 0);
        for (int far : new int[] {-1, 0, 2, 3, 4, Integer.MIN_VALUE, Integer.MAX_VALUE}) {
            same("like(" + far + ")", x.like(far), NONE);
        }
        lay(x, "000 000 000");
        x.keep(2);
        lay(x, "222 222 222");
        same("no racks", x.like(2), 1);
        lay(x, "222 222 221");
        same("no racks", x.like(2), 0);
        tableIs(x, "222 222 221");
    }

    private static void dual() {
        where = "promise 18";
        RackBench x = lined(5, 2);
        x.twist(0, 0, 1);
        yes("dual()", x.dual());
        same("the twist is 0", x.twisted(0, 0), 0);
        tableIs(x, "03142 31420 14203 42031 20314");
        lay(x, "012 120 201");
        yes("no rack, but rows", x.dual());
        tableIs(x, "012 201 120");
        lay(x, "012 120 200");
        x.twist(0, 0, 1);
        no("a torn row", x.dual());
        tableIs(x, "012 120 200");
        same("the twist stays", x.twisted(0, 0), 1);
    }

    private static void times() {
        where = "promise 19";
        RackBench x = lined(3, 2);
        x.keep(0);
        x.turn(2, 1);
        x.twist(0, 0, 1);
        same("2 times 3", x.times(0), 6);
        same("the twist is 0", x.twisted(0, 0), 0);
        tableIs(x, "354021 543210 435102 354021 543210 435102");
        x.twist(0, 0, 1);
        same("6 times 3", x.times(0), NONE);
        for (int far : new int[] {-1, 1, 2, 3, 4, Integer.MIN_VALUE, Integer.MAX_VALUE}) {
            same("times(" + far + ")", x.times(far), NONE);
        }
        same("the twist stays", x.twisted(0, 0), 1);
        lay(x, "11 00");
        x.keep(1);
        same("no racks", x.times(1), 4);
        tableIs(x, "3333 2222 1111 0000");
        x.table(4);
        same("4 times 2", x.times(1), 8);
        same("8 times 1", timesOne(x), 8);
    }

    private static int timesOne(RackBench x) {
        x.keep(2);
        x.table(1);
        x.keep(3);
        x.fetch(2);
        return x.times(3);
    }

    private static void part() {
        where = "promise 20";
        RackBench x = lined(4, 3);
        same("0 and 2", x.part(0, 2), 3);
        tableIs(x, "021 012 012");
        x.line(4, 3);
        same("2 and 0", x.part(2, 0), 3);
        tableIs(x, "021 012 012");
        x.line(4, 3);
        same("0 and 1", x.part(0, 1), 1);
        tableIs(x, "0");
        lay(x, "02143 01234 01234 01234 01234");
        same("only 0 moves any", x.part(1, 3), 3);
        tableIs(x, "021 012 012");
        x.turn(4, 23);
        same("0 and 1 of turns", x.part(0, 1), 2);
        tableIs(x, "10 10");
        x.turn(3, 3);
        x.twist(0, 1, 1);
        same("a thing and itself", x.part(1, 1), 3);
        tableIs(x, "120 120 120");
        same("the twist is 0", x.twisted(0, 1), 0);
        x.twist(0, 1, 1);
        for (int far : new int[] {-1, 3, 8, Integer.MIN_VALUE, Integer.MAX_VALUE}) {
            same("no such a", x.part(far, 0), NONE);
            same("no such b", x.part(0, far), NONE);
        }
        same("the twist stays", x.twisted(0, 1), 1);
        lay(x, "012 021 012");
        same("no rack", x.part(0, 1), NONE);
        lay(x, "012 000 012");
        same("no rack", x.part(0, 1), NONE);
    }

    private static void within() {
        where = "promise 21";
        RackBench x = lined(4, 3);
        same("0 and 2", x.within(5), 2);
        rowIs(x, 0, 2);
        same("0 and 1", x.within(3), 4);
        rowIs(x, 0, 1, 2, 3);
        same("3 alone", x.within(8), 1);
        rowIs(x, 3);
        for (int far : new int[] {0, -1, 16, 17, Integer.MIN_VALUE, Integer.MAX_VALUE}) {
            same("within(" + far + ")", x.within(far), NONE);
        }
        rowIs(x, 3);
        x.table(8);
        same("all eight", x.within(255), 8);
        same("none of nine", x.within(256), NONE);
        lay(x, "1000 0200 0030 0000");
        same("no rack, in steps", x.within(1), 4);
        rowIs(x, 0, 1, 2, 3);
        lay(x, "0133 0123 2222 0123");
        same("no rack", x.within(3), 2);
        rowIs(x, 0, 1);
        same("only a:b, both of the set", x.within(5), 3);
        rowIs(x, 0, 2, 3);
    }

    private static void modulus() {
        where = "promise 22";
        RackBench x = lined(3, 2);
        for (int k = 2; k <= 7; k++) {
            x.twist(2, 2, 1);
            yes("modulus", x.modulus(k));
            same("k", x.count(1), k);
            same("all 0", x.twisted(2, 2), 0);
        }
        x.twist(2, 2, 6);
        for (int far : new int[] {1, 0, 8, -2, Integer.MIN_VALUE, Integer.MAX_VALUE}) {
            no("modulus(" + far + ")", x.modulus(far));
        }
        same("k stays", x.count(1), 7);
        same("the twist stays", x.twisted(2, 2), 6);
        x.table(2);
        same("k stays with a new table", x.count(1), 7);
    }

    private static void twist() {
        where = "promise 23";
        RackBench x = lined(3, 2);
        x.modulus(3);
        yes("twist", x.twist(0, 2, 2));
        yes("twist", x.twist(2, 0, 1));
        same("v(0, 2)", x.twisted(0, 2), 2);
        same("v(2, 0)", x.twisted(2, 0), 1);
        yes("twist back", x.twist(2, 0, 0));
        same("v(2, 0)", x.twisted(2, 0), 0);
        for (int far : new int[] {-1, 3, 7, 8, Integer.MIN_VALUE, Integer.MAX_VALUE}) {
            no("a", x.twist(far, 0, 1));
            no("b", x.twist(0, far, 1));
            no("v", x.twist(0, 0, far));
        }
        same("v(0, 0)", x.twisted(0, 0), 0);
        tableIs(x, "021 210 102");
        lay(x, "11 11");
        yes("no rack", x.twist(1, 1, 2));
    }

    private static void twisted() {
        where = "promise 24";
        RackBench x = lined(3, 2);
        x.modulus(7);
        x.twist(1, 2, 5);
        same("v(1, 2)", x.twisted(1, 2), 5);
        same("v(2, 1)", x.twisted(2, 1), 0);
        for (int far : new int[] {-1, 3, 7, 8, Integer.MIN_VALUE, Integer.MAX_VALUE}) {
            same("a", x.twisted(far, 0), NONE);
            same("b", x.twisted(0, far), NONE);
        }
        x.set(0, 0, 2);
        same("set keeps it", x.twisted(1, 2), 5);
        x.line(3, 2);
        same("a table as a whole does not", x.twisted(1, 2), 0);
        same("k stays", x.count(1), 7);
    }

    private static void closed() {
        where = "promise 25";
        RackBench x = lined(3, 2);
        x.modulus(3);
        x.within(1);
        same("all 0", x.closed(), 0);
        rowIs(x, 0);
        x.twist(0, 1, 1);
        same("one cell", x.closed(), 1);
        rowIs(x, 0, 2, 0);
        flatten(x, 3, 1, 0, 2);
        same("flat", x.closed(), 0);
        rowIs(x, 0, 2, 0);
        x.twist(2, 2, 1);
        same("flat but for the last cell", x.closed(), 1);
        x.table(3);
        for (int i = 0; i < 9; i++) {
            x.twist(i / 3, i % 3, i % 2 + 1);
        }
        same("any twist where nothing moves", x.closed(), 0);
        lay(x, "021 012 012");
        x.twist(1, 1, 1);
        x.twist(2, 2, 1);
        same("not so for 1, 0, 1", x.closed(), 1);
        rowIs(x, 1, 0, 1);
        x.set(0, 0, 1);
        same("no rack", x.closed(), NONE);
    }

    /** v(a, b) = g(a:b) - g(b). */
    private static void flatten(RackBench x, int k, int... g) {
        for (int a = 0; a < g.length; a++) {
            for (int b = 0; b < g.length; b++) {
                x.twist(a, b, Math.floorMod(g[x.at(a, b)] - g[b], k));
            }
        }
    }

    private static void cover() {
        where = "promise 26";
        RackBench x = turned(2, 1);
        x.modulus(3);
        x.twist(0, 0, 1);
        x.twist(1, 0, 1);
        x.twist(0, 1, 2);
        x.twist(1, 1, 2);
        same("closed", x.closed(), 0);
        same("cover()", x.cover(), 6);
        String row = "453201";
        tableIs(x, String.join(" ", row, row, row, row, row, row));
        same("k stays", x.count(1), 3);
        same("the twist is 0", x.twisted(0, 0), 0);
        x.twist(0, 0, 1);
        same("too many", x.cover(), NONE);
        x.line(3, 2);
        same("nine", x.cover(), NONE);
        x.modulus(2);
        x.twist(0, 1, 1);
        same("not closed", x.cover(), NONE);
        tableIs(x, "021 210 102");
        same("the twist stays", x.twisted(0, 1), 1);
        x.modulus(2);
        x.set(0, 0, 1);
        same("no rack", x.cover(), NONE);
        x.table(4);
        x.twist(3, 3, 1);
        same("eight", x.cover(), 8);
        tableIs(x, "01234567 01234567 01234567 01234567 01234567 01234567 01234576 01234576");
        same("a rack", x.wrong(), 0);
    }

    private static void power() {
        where = "promise 27";
        int[] primes = {2, 3, 5, 7};
        String[] racks = {"0", "01 01", "10 10", "012 012 012", "021 021 021", "120 120 120", "021 210 102",
            "012 012 102", "021 012 012"};
        for (String rows : racks) {
            RackBench x = told(rows);
            x.modulus(6);
            for (int p : primes) {
                if (x.count(0) < 3 || p < 5) {
                    same("closed ones of " + rows + " by " + p, x.power(p, 0), counted(x, p));
                }
            }
        }
        same("flat ones", lined(5, 2).power(5, 1), 4);
        same("flat ones", turned(4, 23).power(7, 1), 2);
        same("flat ones", told("012 012 012").power(2, 1), 0);
        RackBench x = new RackBench();
        x.table(8);
        same("all", x.power(7, 0), 64);
        x.pick(4, 1, 6);
        same("by 2 there is one more", x.power(2, 0), x.power(3, 0) + 1);
        for (int far : new int[] {-2, 0, 1, 4, 6, 8, 9, 11, Integer.MIN_VALUE, Integer.MAX_VALUE}) {
            same("p", x.power(far, 0), NONE);
            same("p", x.power(far, 1), NONE);
        }
        for (int far : new int[] {-1, 2, Integer.MIN_VALUE, Integer.MAX_VALUE}) {
            same("what", x.power(2, far), NONE);
        }
        x.set(0, 0, 1);
        same("no rack", x.power(2, 0), NONE);
        same("no rack", x.power(2, 1), NONE);
    }

    /** All twists tried: of how many numbers p to the power of this is the count of closed ones. */
    private static int counted(RackBench x, int p) {
        int n = x.count(0);
        int[][] t = new int[n][n];
        int all = 1;
        for (int i = 0; i < n * n; i++) {
            t[i / n][i % n] = x.at(i / n, i % n);
            all *= p;
        }
        int closed = 0;
        for (int code = 0; code < all; code++) {
            int[][] v = new int[n][n];
            int rest = code;
            for (int i = 0; i < n * n; i++) {
                v[i / n][i % n] = rest % p;
                rest /= p;
            }
            closed += Oracle.openTriple(t, v, p).length == 0 ? 1 : 0;
        }
        int power = 0;
        while (closed > 1) {
            closed /= p;
            power++;
        }
        return power;
    }

    private static void strands() {
        where = "promise 28";
        RackBench x = new RackBench();
        for (int m = 2; m <= 4; m++) {
            yes("strands", x.strands(m));
            same("m", x.count(2), m);
            same("no letters", x.count(3), 0);
            x.letter(1);
        }
        for (int far : new int[] {1, 0, 5, -2, Integer.MIN_VALUE, Integer.MAX_VALUE}) {
            no("strands(" + far + ")", x.strands(far));
        }
        same("m stays", x.count(2), 4);
        same("letters stay", x.count(3), 1);
        yes("strands(4)", x.strands(4));
        same("letters are gone", x.count(3), 0);
    }

    private static void letter() {
        where = "promise 29";
        RackBench x = new RackBench();
        for (int m = 2; m <= 4; m++) {
            x.strands(m);
            for (int far : new int[] {0, m, -m, 4, -4, Integer.MIN_VALUE, Integer.MAX_VALUE}) {
                same("letter(" + far + ")", x.letter(far), NONE);
            }
            same("the last", x.letter(m - 1), 1);
            same("the last, contrary", x.letter(1 - m), 2);
        }
        for (int i = 3; i <= 24; i++) {
            same("letters", x.letter(i % 2 == 0 ? 3 : -1), i);
        }
        same("25", x.letter(1), NONE);
        same("25", x.letter(-1), NONE);
        same("24 stay", x.count(3), 24);
    }

    private static void colours() {
        where = "promise 30";
        RackBench x = lined(3, 2);
        word(x, 2, 1, 1, 1);
        same("a trefoil by 3", x.colours(), 9);
        x.line(5, 4);
        same("a trefoil by 5", x.colours(), 5);
        word(x, 3, 1, -2, 1, -2);
        same("a figure of eight by 5", x.colours(), 25);
        word(x, 4);
        same("four strands alone", x.colours(), 625);
        x.turn(2, 1);
        word(x, 2, 1);
        same("a kink", x.colours(), 0);
        word(x, 2, 1, -1);
        same("letters undone", x.colours(), 4);
        word(x, 2, -1, 1);
        same("letters undone", x.colours(), 4);
        x.line(7, 3);
        word(x, 3, 1, 2, 1, -2, -1, -2);
        same("what all racks let pass", x.colours(), 343);
        x.turn(3, 3);
        word(x, 2, 1, 1, -1, -1, -1, -1);
        same("each turned back once, so none stays", x.colours(), 0);
        x.set(0, 0, 0);
        same("no rack", x.colours(), NONE);
    }

    private static void sums() {
        where = "promise 31";
        RackBench x = new RackBench();
        x.table(2);
        x.modulus(3);
        x.twist(0, 1, 1);
        word(x, 2, -1, -1);
        sumsAre(x, 2, 0, 2);
        word(x, 2, 1, 1);
        sumsAre(x, 2, 2, 0);
        x.modulus(5);
        x.twist(0, 0, 2);
        word(x, 2, 1, 1);
        sumsAre(x, 3, 0, 0, 0, 1);
        for (int far : new int[] {-1, 5, 7, Integer.MIN_VALUE, Integer.MAX_VALUE}) {
            same("no such sum", x.sums(far), NONE);
        }
        x.turn(2, 1);
        x.modulus(7);
        x.twist(0, 1, 3);
        // 0 0 becomes 0 1, less v(0, 1); that 1 1, that 1 0, that 0 0 again: each comes by v(0, 1) once.
        word(x, 2, -1, -1, -1, -1);
        same("all come back", x.colours(), 4);
        sumsAre(x, 0, 0, 0, 0, 4, 0, 0);
        tetrahedron();
        lay(x, "11 01");
        same("no rack", x.sums(0), NONE);
    }

    private static void sumsAre(RackBench x, int... due) {
        for (int sum = 0; sum < due.length; sum++) {
            same("sums(" + sum + ")", x.sums(sum), due[sum]);
        }
    }

    /** The known sums of the trefoil by the four-thing quandle and its twist by 2 that is not flat. */
    private static void tetrahedron() {
        RackBench x = new RackBench();
        x.pick(4, 1, 6);
        x.modulus(2);
        for (int a = 0; a < 4; a++) {
            for (int b = 0; b < 4; b++) {
                x.twist(a, b, a != b && a != 3 && b != 3 ? 1 : 0);
            }
        }
        same("closed", x.closed(), 0);
        word(x, 2, 1, 1, 1);
        sumsAre(x, 4, 12);
        word(x, 3, 1, -2, 1, -2);
        sumsAre(x, 4, 12);
    }

    private static void listed() {
        where = "promise 32";
        RackBench x = new RackBench();
        int[] racks = {1, 2, 6, 19};
        int[] quandles = {1, 1, 3, 7};
        for (int n = 1; n <= 4; n++) {
            same("quandles", x.listed(n, 1), quandles[n - 1]);
            same("racks", x.listed(n, 0), racks[n - 1]);
        }
        for (int far : new int[] {0, 5, -1, Integer.MIN_VALUE, Integer.MAX_VALUE}) {
            same("n", x.listed(far, 0), NONE);
        }
        for (int far : new int[] {2, -1, Integer.MIN_VALUE, Integer.MAX_VALUE}) {
            same("what", x.listed(2, far), NONE);
        }
        same("the table stays", x.count(0), 1);
    }

    private static void pick() {
        where = "promise 33";
        String[] racks = {"012 012 012", "012 012 102", "012 021 021", "021 021 021", "021 210 102", "120 120 120"};
        for (int i = 0; i < racks.length; i++) {
            RackBench x = new RackBench();
            yes("pick", x.pick(3, 0, i));
            tableIs(x, racks[i]);
        }
        String[] quandles = {"012 012 012", "012 012 102", "021 210 102"};
        for (int i = 0; i < quandles.length; i++) {
            RackBench x = new RackBench();
            yes("pick", x.pick(3, 1, i));
            tableIs(x, quandles[i]);
        }
        allFoursAscend();
        RackBench x = new RackBench();
        x.pick(2, 0, 1);
        tableIs(x, "10 10");
        x.twist(0, 0, 1);
        int[][] refused = {{3, 0, 6}, {3, 1, 3}, {4, 0, 19}, {4, 1, 7}, {0, 0, 0}, {5, 0, 0}, {3, 2, 0}, {3, -1, 0},
            {3, 0, -1}, {1, 0, 1}, {Integer.MAX_VALUE, 0, 0}, {3, 0, Integer.MAX_VALUE}, {3, 0, Integer.MIN_VALUE}};
        for (int[] r : refused) {
            no("pick(" + r[0] + ", " + r[1] + ", " + r[2] + ")", x.pick(r[0], r[1], r[2]));
        }
        same("the twist stays", x.twisted(0, 0), 1);
        yes("pick", x.pick(2, 0, 1));
        same("the twist is 0", x.twisted(0, 0), 0);
    }

    private static void allFoursAscend() {
        long before = -1;
        RackBench x = new RackBench();
        for (int i = 0; i < 19; i++) {
            yes("pick", x.pick(4, 0, i));
            long code = 0;
            for (int c = 0; c < 16; c++) {
                code = 4 * code + x.at(c / 4, c % 4);
            }
            yes("in order", code > before);
            before = code;
            same("a rack", x.wrong(), 0);
            no("least", x.least());
        }
    }

    private static void row() {
        where = "promise 34";
        RackBench x = new RackBench();
        yes("empty", rowThrows(x, 0));
        x.line(4, 3);
        x.orbits();
        rowIs(x, 0, 1, 0, 1);
        for (int far : new int[] {-1, 4, 8, Integer.MIN_VALUE, Integer.MAX_VALUE}) {
            yes("row throws", rowThrows(x, far));
        }
        x.table(2);
        x.keep(0);
        x.dual();
        rowIs(x, 0, 1, 0, 1);
        x.within(2);
        rowIs(x, 1);
    }

    /** One object goes through every refused call there is and stands as it stood. */
    private static void refusedCallsChangeNothing() {
        where = "refused calls";
        RackBench x = told("012 021 012");
        x.modulus(5);
        x.twist(2, 1, 4);
        word(x, 3, 1, -2);
        x.wrong();
        x.table(9);
        x.line(3, 3);
        x.turn(3, 6);
        x.group(24);
        x.fetch(0);
        x.like(0);
        x.is(0);
        x.orbits();
        x.moves();
        x.times(0);
        x.part(0, 1);
        x.within(8);
        x.modulus(8);
        x.twist(0, 0, 5);
        x.closed();
        x.cover();
        x.power(2, 0);
        x.strands(5);
        x.letter(3);
        x.colours();
        x.sums(0);
        x.listed(5, 0);
        x.pick(5, 0, 0);
        x.set(0, 0, 3);
        x.keep(4);
        tableIs(x, "012 021 012");
        rowIs(x, 1, 1, 1);
        same("k", x.count(1), 5);
        same("v(2, 1)", x.twisted(2, 1), 4);
        same("strands", x.count(2), 3);
        same("letters", x.count(3), 2);
        same("nothing kept", x.fetch(0), NONE);
    }
}
