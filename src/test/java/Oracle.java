import java.util.ArrayList;
import java.util.Arrays;
import java.util.HashSet;
import java.util.List;
import java.util.NoSuchElementException;
import java.util.Set;

/**
 * The document once more, in its plainest form: every permutation, colouring and table is tried, and
 * nothing is shared with RackBench, so that the two can be held against each other.
 */
final class Oracle {
    int[][] t = {{0}};
    int[][] v = {{0}};
    int k = 2;
    int m = 2;
    List<Integer> word = new ArrayList<>();
    List<Integer> told = new ArrayList<>();
    final int[][][] keeps = new int[4][][];

    private static final List<List<int[][]>> RACKS = new ArrayList<>();

    // ---- permutations and names

    static List<int[]> permutations(int n) {
        List<int[]> all = new ArrayList<>();
        permute(new int[n], 0, all);
        return all;
    }

    private static void permute(int[] row, int i, List<int[]> all) {
        if (i == row.length) {
            all.add(row.clone());
            return;
        }
        for (int x = 0; x < row.length; x++) {
            boolean free = true;
            for (int j = 0; j < i; j++) {
                free &= row[j] != x;
            }
            if (free) {
                row[i] = x;
                permute(row, i + 1, all);
            }
        }
    }

    static int[][] renamed(int[][] t, int[] f) {
        int n = t.length;
        int[][] r = new int[n][n];
        for (int a = 0; a < n; a++) {
            for (int b = 0; b < n; b++) {
                r[f[a]][f[b]] = f[t[a][b]];
            }
        }
        return r;
    }

    static int compare(int[][] one, int[][] other) {
        for (int a = 0; a < one.length; a++) {
            int c = Arrays.compare(one[a], other[a]);
            if (c != 0) {
                return c;
            }
        }
        return 0;
    }

    static int[][] leastOf(int[][] t) {
        int[][] best = t;
        for (int[] f : permutations(t.length)) {
            int[][] r = renamed(t, f);
            if (compare(r, best) < 0) {
                best = r;
            }
        }
        return best;
    }

    static int[] judged(int[][] t) {
        int n = t.length;
        for (int a = 0; a < n; a++) {
            Set<Integer> seen = new HashSet<>();
            for (int b = 0; b < n; b++) {
                seen.add(t[a][b]);
            }
            if (seen.size() != n) {
                return new int[] {a};
            }
        }
        for (int a = 0; a < n; a++) {
            for (int b = 0; b < n; b++) {
                for (int c = 0; c < n; c++) {
                    if (t[a][t[b][c]] != t[t[a][b]][t[a][c]]) {
                        return new int[] {a, b, c};
                    }
                }
            }
        }
        return new int[0];
    }

    private boolean rack() {
        return judged(t).length == 0;
    }

    private boolean has(int a) {
        return a >= 0 && a < t.length;
    }

    private void make(int[][] made) {
        t = made;
        v = new int[t.length][t.length];
    }

    private boolean filled(int keep) {
        return keep >= 0 && keep < 4 && keeps[keep] != null;
    }

    private void tell(int... numbers) {
        told = new ArrayList<>();
        for (int x : numbers) {
            told.add(x);
        }
    }

    static int[][] copied(int[][] t) {
        int[][] c = new int[t.length][];
        for (int a = 0; a < t.length; a++) {
            c[a] = t[a].clone();
        }
        return c;
    }

    // ---- tables

    boolean table(int n) {
        return turn(n, 0);
    }

    boolean set(int a, int b, int value) {
        if (!has(a) || !has(b) || !has(value)) {
            return false;
        }
        t[a][b] = value;
        return true;
    }

    int at(int a, int b) {
        if (!has(a) || !has(b)) {
            throw new NoSuchElementException();
        }
        return t[a][b];
    }

    boolean line(int n, int s) {
        if (n < 1 || n > 8 || s < 0 || s >= n) {
            return false;
        }
        for (int d = 2; d <= n; d++) {
            if (n % d == 0 && s % d == 0) {
                return false;
            }
        }
        int[][] made = new int[n][n];
        for (int a = 0; a < n; a++) {
            for (int b = 0; b < n; b++) {
                made[a][b] = (a + s * (b + n - a)) % n;
            }
        }
        make(made);
        return true;
    }

    boolean turn(int n, int p) {
        if (n < 1 || n > 8 || p < 0) {
            return false;
        }
        List<int[]> all = permutations(n);
        if (p >= all.size()) {
            return false;
        }
        int[][] made = new int[n][];
        for (int a = 0; a < n; a++) {
            made[a] = all.get(p).clone();
        }
        make(made);
        return true;
    }

    int group(int p) {
        List<int[]> all = permutations(4);
        if (p < 0 || p >= all.size()) {
            return -1;
        }
        List<int[]> alike = new ArrayList<>();
        for (int[] q : all) {
            boolean found = false;
            for (int[] r : all) {
                found |= Arrays.equals(q, aroundBy(r, all.get(p)));
            }
            if (found) {
                alike.add(q);
            }
        }
        int n = alike.size();
        int[][] made = new int[n][n];
        for (int a = 0; a < n; a++) {
            for (int b = 0; b < n; b++) {
                int[] c = aroundBy(alike.get(a), alike.get(b));
                for (int i = 0; i < n; i++) {
                    if (Arrays.equals(alike.get(i), c)) {
                        made[a][b] = i;
                    }
                }
            }
        }
        make(made);
        return n;
    }

    /** First a's contrary, then b, then a. */
    private static int[] aroundBy(int[] a, int[] b) {
        int[] c = new int[a.length];
        for (int x = 0; x < a.length; x++) {
            int back = 0;
            while (a[back] != x) {
                back++;
            }
            c[x] = a[b[back]];
        }
        return c;
    }

    boolean keep(int keep) {
        if (keep < 0 || keep > 3) {
            return false;
        }
        keeps[keep] = copied(t);
        return true;
    }

    int fetch(int keep) {
        if (!filled(keep)) {
            return -1;
        }
        make(copied(keeps[keep]));
        return t.length;
    }

    int count(int what) {
        int[] all = {t.length, k, m, word.size(), told.size()};
        return what < 0 || what > 4 ? -1 : all[what];
    }

    // ---- what it is

    int wrong() {
        int[] found = judged(t);
        if (found.length == 0) {
            return 0;
        }
        tell(found);
        return found.length == 1 ? 1 : 2;
    }

    int is(int what) {
        if (!rack() || what < 0 || what > 4) {
            return -1;
        }
        int n = t.length;
        boolean yes = true;
        for (int a = 0; a < n; a++) {
            for (int b = 0; b < n; b++) {
                if (what == 0) {
                    yes &= t[a][a] == a;
                } else if (what == 1) {
                    yes &= t[a][t[a][b]] == b;
                } else if (what == 2) {
                    yes &= reach(a)[b];
                } else if (what == 3) {
                    yes &= a == b || !Arrays.equals(t[a], t[b]);
                } else {
                    boolean found = false;
                    for (int c = 0; c < n; c++) {
                        found |= t[c][a] == b;
                    }
                    yes &= found;
                }
            }
        }
        return yes ? 1 : 0;
    }

    private boolean[] reach(int from) {
        int n = t.length;
        boolean[] r = new boolean[n];
        r[from] = true;
        for (int round = 0; round < n; round++) {
            for (int a = 0; a < n; a++) {
                for (int b = 0; b < n; b++) {
                    boolean either = r[b] || r[t[a][b]];
                    r[b] = either;
                    r[t[a][b]] = either;
                }
            }
        }
        return r;
    }

    int orbits() {
        if (!rack()) {
            return -1;
        }
        int n = t.length;
        int[] number = new int[n];
        Arrays.fill(number, -1);
        int size = 0;
        for (int a = 0; a < n; a++) {
            if (number[a] == -1) {
                boolean[] r = reach(a);
                for (int b = 0; b < n; b++) {
                    if (r[b]) {
                        number[b] = size;
                    }
                }
                size++;
            }
        }
        tell(number);
        return size;
    }

    int moves() {
        if (!rack()) {
            return -1;
        }
        int n = t.length;
        int[] start = new int[n];
        for (int i = 0; i < n; i++) {
            start[i] = i;
        }
        Set<String> seen = new HashSet<>();
        List<int[]> list = new ArrayList<>();
        seen.add(Arrays.toString(start));
        list.add(start);
        for (int i = 0; i < list.size(); i++) {
            for (int a = 0; a < n; a++) {
                int[] next = new int[n];
                for (int x = 0; x < n; x++) {
                    next[x] = t[a][list.get(i)[x]];
                }
                if (seen.add(Arrays.toString(next))) {
                    list.add(next);
                }
            }
        }
        return list.size();
    }

    int keepers() {
        int size = 0;
        for (int[] f : permutations(t.length)) {
            if (compare(renamed(t, f), t) == 0) {
                size++;
            }
        }
        return size;
    }

    boolean least() {
        int[][] l = leastOf(t);
        boolean another = compare(l, t) != 0;
        make(copied(l));
        return another;
    }

    int like(int keep) {
        if (!filled(keep)) {
            return -1;
        }
        int[][] other = keeps[keep];
        return other.length == t.length && compare(leastOf(t), leastOf(other)) == 0 ? 1 : 0;
    }

    // ---- put together, taken apart

    boolean dual() {
        if (judged(t).length == 1) {
            return false;
        }
        int n = t.length;
        int[][] made = new int[n][n];
        for (int a = 0; a < n; a++) {
            for (int c = 0; c < n; c++) {
                made[a][t[a][c]] = c;
            }
        }
        make(made);
        return true;
    }

    int times(int keep) {
        if (!filled(keep) || keeps[keep].length * t.length > 8) {
            return -1;
        }
        int[][] other = keeps[keep];
        int size = other.length;
        int[][] made = new int[t.length * size][t.length * size];
        for (int a = 0; a < t.length; a++) {
            for (int b = 0; b < t.length; b++) {
                for (int x = 0; x < size; x++) {
                    for (int y = 0; y < size; y++) {
                        made[size * a + x][size * b + y] = size * t[a][b] + other[x][y];
                    }
                }
            }
        }
        make(made);
        return t.length;
    }

    int part(int a, int b) {
        if (!rack() || !has(a) || !has(b)) {
            return -1;
        }
        int n = t.length;
        boolean[][] one = new boolean[n][n];
        for (int x = 0; x < n; x++) {
            one[x][x] = true;
        }
        one[a][b] = true;
        for (int round = 0; round < 3 * n; round++) {
            widen(one);
        }
        int[] number = new int[n];
        int size = 0;
        for (int x = 0; x < n; x++) {
            int lowest = x;
            for (int y = x; y >= 0; y--) {
                lowest = one[x][y] ? y : lowest;
            }
            number[x] = lowest == x ? size++ : number[lowest];
        }
        int[][] made = new int[size][size];
        for (int x = 0; x < n; x++) {
            for (int y = 0; y < n; y++) {
                made[number[x]][number[y]] = number[t[x][y]];
            }
        }
        make(made);
        return size;
    }

    private void widen(boolean[][] one) {
        int n = t.length;
        for (int x = 0; x < n; x++) {
            for (int y = 0; y < n; y++) {
                for (int c = 0; c < n && one[x][y]; c++) {
                    one[y][x] = true;
                    one[t[x][c]][t[y][c]] = true;
                    one[t[c][x]][t[c][y]] = true;
                    for (int z = 0; z < n; z++) {
                        one[x][z] |= one[y][z];
                    }
                }
            }
        }
    }

    int within(int bits) {
        if (bits <= 0 || bits >= 1 << t.length) {
            return -1;
        }
        Set<Integer> set = new HashSet<>();
        for (int a = 0; a < t.length; a++) {
            if ((bits & 1 << a) != 0) {
                set.add(a);
            }
        }
        for (int round = 0; round < 8; round++) {
            for (int a : new ArrayList<>(set)) {
                for (int b : new ArrayList<>(set)) {
                    set.add(t[a][b]);
                }
            }
        }
        int[] numbers = new int[set.size()];
        int i = 0;
        for (int a : set) {
            numbers[i++] = a;
        }
        Arrays.sort(numbers);
        tell(numbers);
        return numbers.length;
    }

    // ---- twists

    boolean modulus(int modulus) {
        if (modulus < 2 || modulus > 7) {
            return false;
        }
        k = modulus;
        v = new int[t.length][t.length];
        return true;
    }

    boolean twist(int a, int b, int value) {
        if (!has(a) || !has(b) || value < 0 || value >= k) {
            return false;
        }
        v[a][b] = value;
        return true;
    }

    int twisted(int a, int b) {
        return has(a) && has(b) ? v[a][b] : -1;
    }

    static int[] openTriple(int[][] t, int[][] v, int k) {
        int n = t.length;
        for (int a = 0; a < n; a++) {
            for (int b = 0; b < n; b++) {
                for (int c = 0; c < n; c++) {
                    if ((v[b][c] + v[a][t[b][c]]) % k != (v[a][c] + v[t[a][b]][t[a][c]]) % k) {
                        return new int[] {a, b, c};
                    }
                }
            }
        }
        return new int[0];
    }

    int closed() {
        if (!rack()) {
            return -1;
        }
        int[] found = openTriple(t, v, k);
        if (found.length == 0) {
            return 0;
        }
        tell(found);
        return 1;
    }

    int cover() {
        if (!rack() || openTriple(t, v, k).length != 0 || t.length * k > 8) {
            return -1;
        }
        int n = t.length;
        int[][] made = new int[n * k][n * k];
        for (int a = 0; a < n; a++) {
            for (int b = 0; b < n; b++) {
                for (int i = 0; i < k; i++) {
                    for (int j = 0; j < k; j++) {
                        made[k * a + i][k * b + j] = k * t[a][b] + (j + v[a][b]) % k;
                    }
                }
            }
        }
        make(made);
        return t.length;
    }

    int power(int p, int what) {
        if (!rack() || p != 2 && p != 3 && p != 5 && p != 7 || what != 0 && what != 1) {
            return -1;
        }
        int n = t.length;
        List<int[]> rows = new ArrayList<>();
        if (what == 1) {
            for (int g = 0; g < n; g++) {
                int[] row = new int[n * n];
                for (int a = 0; a < n; a++) {
                    for (int b = 0; b < n; b++) {
                        row[a * n + b] += t[a][b] == g ? 1 : 0;
                        row[a * n + b] += b == g ? p - 1 : 0;
                    }
                }
                rows.add(row);
            }
            return rank(rows, n * n, p);
        }
        for (int a = 0; a < n; a++) {
            for (int b = 0; b < n; b++) {
                for (int c = 0; c < n; c++) {
                    int[] row = new int[n * n];
                    row[b * n + c] += 1;
                    row[a * n + t[b][c]] += 1;
                    row[a * n + c] += p - 1;
                    row[t[a][b] * n + t[a][c]] += p - 1;
                    rows.add(row);
                }
            }
        }
        return n * n - rank(rows, n * n, p);
    }

    /** Column by column, over all rows at once. */
    private static int rank(List<int[]> rows, int width, int p) {
        int rank = 0;
        for (int column = 0; column < width; column++) {
            int found = -1;
            for (int i = rank; i < rows.size() && found < 0; i++) {
                found = rows.get(i)[column] % p != 0 ? i : -1;
            }
            if (found < 0) {
                continue;
            }
            int[] lead = rows.get(found);
            rows.set(found, rows.get(rank));
            rows.set(rank, lead);
            for (int i = rank + 1; i < rows.size(); i++) {
                int[] row = rows.get(i);
                int factor = row[column] % p;
                int by = lead[column] % p;
                for (int j = 0; j < width && factor != 0; j++) {
                    row[j] = Math.floorMod(row[j] * by - lead[j] * factor, p);
                }
            }
            rank++;
        }
        return rank;
    }

    // ---- braids

    boolean strands(int strands) {
        if (strands < 2 || strands > 4) {
            return false;
        }
        m = strands;
        word = new ArrayList<>();
        return true;
    }

    int letter(int i) {
        long size = Math.abs((long) i);
        if (size < 1 || size > m - 1 || word.size() >= 24) {
            return -1;
        }
        word.add(i);
        return word.size();
    }

    int colours() {
        return rack() ? colourings(-1) : -1;
    }

    int sums(int sum) {
        return rack() && sum >= 0 && sum < k ? colourings(sum) : -1;
    }

    private int colourings(int due) {
        int n = t.length;
        int size = 0;
        for (int start = 0; start < Math.pow(n, m); start++) {
            int[] s = new int[m];
            int rest = start;
            for (int i = 0; i < m; i++) {
                s[i] = rest % n;
                rest /= n;
            }
            int[] ahead = s.clone();
            int sum = 0;
            for (int letter : word) {
                int i = Math.abs(letter);
                int x = s[i - 1];
                int y = s[i];
                if (letter > 0) {
                    s[i - 1] = t[x][y];
                    s[i] = x;
                    sum += v[x][y];
                } else {
                    int z = 0;
                    while (t[y][z] != x) {
                        z++;
                    }
                    s[i - 1] = y;
                    s[i] = z;
                    sum += k - v[y][z];
                }
            }
            if (Arrays.equals(s, ahead) && (due == -1 || sum % k == due)) {
                size++;
            }
        }
        return size;
    }

    // ---- lists

    static List<int[][]> racks(int n, int what) {
        while (RACKS.size() <= 4) {
            List<int[][]> found = new ArrayList<>();
            int size = RACKS.size();
            if (size > 0) {
                collect(new int[size][], 0, permutations(size), found);
            }
            RACKS.add(found);
        }
        List<int[][]> some = new ArrayList<>();
        for (int[][] r : RACKS.get(n)) {
            boolean quandle = true;
            for (int a = 0; a < n; a++) {
                quandle &= r[a][a] == a;
            }
            if (what == 0 || quandle) {
                some.add(r);
            }
        }
        return some;
    }

    private static void collect(int[][] t, int a, List<int[]> rows, List<int[][]> found) {
        if (a == t.length) {
            if (judged(t).length == 0 && compare(leastOf(t), t) == 0) {
                found.add(copied(t));
            }
            return;
        }
        for (int[] row : rows) {
            t[a] = row;
            collect(t, a + 1, rows, found);
        }
    }

    int listed(int n, int what) {
        return n < 1 || n > 4 || what < 0 || what > 1 ? -1 : racks(n, what).size();
    }

    boolean pick(int n, int what, int i) {
        if (i < 0 || i >= listed(n, what)) {
            return false;
        }
        make(copied(racks(n, what).get(i)));
        return true;
    }

    int row(int i) {
        if (i < 0 || i >= told.size()) {
            throw new NoSuchElementException();
        }
        return told.get(i);
    }
}
