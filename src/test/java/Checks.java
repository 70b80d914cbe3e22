import java.util.NoSuchElementException;

/** How answers are looked at, and how tables and words are told: what the tests by hand share. */
abstract class Checks {
    static final int NONE = -1;

    static String where = "";
    static int asked = 0;
    static int wrong = 0;

    // ---- how answers are looked at

    static void same(String what, long got, long due) {
        asked++;
        if (got != due) {
            wrong++;
            System.out.println(where + ": " + what + " is " + got + ", due is " + due);
        }
    }

    static void yes(String what, boolean got) {
        same(what, got ? 1 : 0, 1);
    }

    static void no(String what, boolean got) {
        same(what, got ? 1 : 0, 0);
    }

    static void tableIs(RackBench x, String rows) {
        StringBuilder got = new StringBuilder();
        for (int a = 0; a < x.count(0); a++) {
            got.append(a == 0 ? "" : " ");
            for (int b = 0; b < x.count(0); b++) {
                got.append(x.at(a, b));
            }
        }
        asked++;
        if (!rows.equals(got.toString())) {
            wrong++;
            System.out.println(where + ": the table is " + got + ", due is " + rows);
        }
    }

    static void rowIs(RackBench x, int... due) {
        same("numbers of the row", x.count(4), due.length);
        for (int i = 0; i < Math.min(due.length, x.count(4)); i++) {
            same("row(" + i + ")", x.row(i), due[i]);
        }
        yes("row behind its end throws", rowThrows(x, due.length));
    }

    static boolean rowThrows(RackBench x, int i) {
        try {
            x.row(i);
            return false;
        } catch (NoSuchElementException e) {
            return e.getClass() == NoSuchElementException.class;
        }
    }

    static boolean atThrows(RackBench x, int a, int b) {
        try {
            x.at(a, b);
            return false;
        } catch (NoSuchElementException e) {
            return e.getClass() == NoSuchElementException.class;
        }
    }

    /** The table told by its rows, "021 021 021". */
    static RackBench told(String rows) {
        RackBench x = new RackBench();
        lay(x, rows);
        return x;
    }

    static void lay(RackBench x, String rows) {
        String[] row = rows.split(" ");
        x.table(row.length);
        for (int a = 0; a < row.length; a++) {
            for (int b = 0; b < row.length; b++) {
                x.set(a, b, row[a].charAt(b) - '0');
            }
        }
    }

    static RackBench lined(int n, int t) {
        RackBench x = new RackBench();
        x.line(n, t);
        return x;
    }

    static RackBench turned(int n, int p) {
        RackBench x = new RackBench();
        x.turn(n, p);
        return x;
    }

    /** Two tables side by side: the things of the one leave those of the other where they are. */
    static RackBench beside(RackBench one, RackBench other) {
        int n = one.count(0);
        int m = other.count(0);
        RackBench x = new RackBench();
        x.table(n + m);
        for (int a = 0; a < n; a++) {
            for (int b = 0; b < n; b++) {
                x.set(a, b, one.at(a, b));
            }
        }
        for (int a = 0; a < m; a++) {
            for (int b = 0; b < m; b++) {
                x.set(n + a, n + b, n + other.at(a, b));
            }
        }
        return x;
    }

    static void word(RackBench x, int m, int... letters) {
        x.strands(m);
        for (int i : letters) {
            x.letter(i);
        }
    }

    /** Says how many answers were wrong, and ends with exit code 1 if there was one. */
    static void end(String test) {
        System.out.println(test + ": " + asked + " answers looked at, " + wrong + " wrong");
        System.exit(wrong == 0 ? 0 : 1);
    }
}
