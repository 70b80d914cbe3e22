import java.util.Arrays;
import java.util.NoSuchElementException;

/**
 * A bench of racks: small sets in which each thing turns all others, kept by all turns.
 *
 * All rows that the calls work on are made once, with the object: no call makes a new one.
 */
public final class RackBench {
    public static final int NONE = -1;

    private static final int MOST = 8;
    private static final int CELLS = MOST * MOST;
    private static final int KEEPS = 4;
    private static final int GROUPED = 4;
    private static final int MOST_MODULUS = 7;
    private static final int MOST_STRANDS = 4;
    private static final int MOST_LETTERS = 24;
    private static final int MOST_LISTED = 4;
    private static final int[] FACTORIALS = {1, 1, 2, 6, 24, 120, 720, 5040, 40320};

    private final Table current = new Table(1);
    private final Table draft = new Table(1);
    private final Table contrary = new Table(1);
    private final Table[] keeps = new Table[KEEPS];
    private final Twist twisting = new Twist();
    private final Braid braid = new Braid();
    private final Classes classes = new Classes();
    private final Matcher matcher = new Matcher();
    private final Namer namer = new Namer();
    private final TurnGroup turnGroup = new TurnGroup();
    private final Solver solver = new Solver();
    private final Lister lister = new Lister();
    private final int[] peers = new int[MOST];
    private final int[] told = new int[MOST];
    private int toldCount = 0;

    public RackBench() {
        for (int k = 0; k < KEEPS; k++) {
            keeps[k] = new Table(0);
        }
    }

    // ---- tables

    public boolean table(int n) {
        return turn(n, 0);
    }

    public boolean set(int a, int b, int v) {
        if (!current.has(a) || !current.has(b) || !current.has(v)) {
            return false;
        }
        current.put(a, b, v);
        return true;
    }

    public int at(int a, int b) throws NoSuchElementException {
        if (!current.has(a) || !current.has(b)) {
            throw new NoSuchElementException("no such things");
        }
        return current.turned(a, b);
    }

    public boolean line(int n, int t) {
        if (!isSize(n) || t < 0 || t >= n || commonPart(t, n) > 1) {
            return false;
        }
        draft.n = n;
        for (int a = 0; a < n; a++) {
            for (int b = 0; b < n; b++) {
                draft.put(a, b, Math.floorMod((1 - t) * a + t * b, n));
            }
        }
        adoptDraft();
        return true;
    }

    public boolean turn(int n, int p) {
        if (!isSize(n) || p < 0 || p >= FACTORIALS[n]) {
            return false;
        }
        int permutation = Permutations.numbered(n, p);
        draft.n = n;
        for (int a = 0; a < n; a++) {
            draft.putRow(a, permutation);
        }
        adoptDraft();
        return true;
    }

    public int group(int p) {
        if (p < 0 || p >= FACTORIALS[GROUPED]) {
            return NONE;
        }
        draft.n = gatherPeers(p);
        for (int a = 0; a < draft.n; a++) {
            int back = Permutations.contrary(peers[a], GROUPED);
            for (int b = 0; b < draft.n; b++) {
                int moved = Permutations.after(peers[b], back, GROUPED);
                draft.put(a, b, peerOf(Permutations.after(peers[a], moved, GROUPED), draft.n));
            }
        }
        return adoptDraft();
    }

    public boolean keep(int k) {
        if (!isKeep(k)) {
            return false;
        }
        keeps[k].copy(current);
        return true;
    }

    public int fetch(int k) {
        if (!isFilled(k)) {
            return NONE;
        }
        draft.copy(keeps[k]);
        return adoptDraft();
    }

    public int count(int what) {
        switch (what) {
            case 0:
                return current.n;
            case 1:
                return twisting.modulus;
            case 2:
                return braid.width;
            case 3:
                return braid.length;
            case 4:
                return toldCount;
            default:
                return NONE;
        }
    }

    // ---- what it is

    public int wrong() {
        int torn = current.firstTornRow();
        if (torn != NONE) {
            toldCount = 0;
            tell(torn);
            return 1;
        }
        int broken = current.firstBrokenTriple();
        if (broken != NONE) {
            tellTriple(broken);
            return 2;
        }
        return 0;
    }

    public int is(int what) {
        if (what < 0 || what > 4 || !current.isRack()) {
            return NONE;
        }
        return holds(what) ? 1 : 0;
    }

    public int orbits() {
        if (!current.isRack()) {
            return NONE;
        }
        int size = splitIntoOrbits();
        toldCount = 0;
        for (int a = 0; a < current.n; a++) {
            tell(classes.numberOf(a));
        }
        return size;
    }

    public int moves() {
        return current.isRack() ? turnGroup.orderOf(current) : NONE;
    }

    public int keepers() {
        return matcher.countKeepers(current);
    }

    public boolean least() {
        boolean another = namer.lessen(current);
        draft.copy(namer.best);
        adoptDraft();
        return another;
    }

    public int like(int k) {
        if (!isFilled(k)) {
            return NONE;
        }
        return matcher.matches(current, keeps[k]) ? 1 : 0;
    }

    // ---- put together, taken apart

    public boolean dual() {
        if (current.firstTornRow() != NONE) {
            return false;
        }
        draft.makeContrary(current);
        adoptDraft();
        return true;
    }

    public int times(int k) {
        if (!isFilled(k) || current.n * keeps[k].n > MOST) {
            return NONE;
        }
        Table other = keeps[k];
        int m = other.n;
        draft.n = current.n * m;
        for (int i = 0; i < draft.n; i++) {
            for (int j = 0; j < draft.n; j++) {
                draft.put(i, j, m * current.turned(i / m, j / m) + other.turned(i % m, j % m));
            }
        }
        return adoptDraft();
    }

    public int part(int a, int b) {
        if (!current.has(a) || !current.has(b) || !current.isRack()) {
            return NONE;
        }
        classes.split(current.n);
        classes.join(a, b);
        joinWhatMustBeOne();
        draft.n = classes.number();
        for (int c = 0; c < current.n; c++) {
            for (int d = 0; d < current.n; d++) {
                draft.put(classes.numberOf(c), classes.numberOf(d), classes.numberOf(current.turned(c, d)));
            }
        }
        return adoptDraft();
    }

    public int within(int bits) {
        if (bits <= 0 || bits >= 1 << current.n) {
            return NONE;
        }
        int whole = closedSet(bits);
        toldCount = 0;
        for (int a = 0; a < current.n; a++) {
            if ((whole >> a & 1) == 1) {
                tell(a);
            }
        }
        return toldCount;
    }

    // ---- twists

    public boolean modulus(int k) {
        if (k < 2 || k > MOST_MODULUS) {
            return false;
        }
        twisting.modulus = k;
        twisting.flatten();
        return true;
    }

    public boolean twist(int a, int b, int v) {
        if (!current.has(a) || !current.has(b) || v < 0 || v >= twisting.modulus) {
            return false;
        }
        twisting.put(a, b, v);
        return true;
    }

    public int twisted(int a, int b) {
        return current.has(a) && current.has(b) ? twisting.value(a, b) : NONE;
    }

    public int closed() {
        if (!current.isRack()) {
            return NONE;
        }
        int open = twisting.firstOpenTriple(current);
        if (open == NONE) {
            return 0;
        }
        tellTriple(open);
        return 1;
    }

    public int cover() {
        int k = twisting.modulus;
        if (current.n * k > MOST || !current.isRack() || twisting.firstOpenTriple(current) != NONE) {
            return NONE;
        }
        draft.n = current.n * k;
        for (int x = 0; x < draft.n; x++) {
            int a = x / k;
            for (int y = 0; y < draft.n; y++) {
                int b = y / k;
                draft.put(x, y, k * current.turned(a, b) + (y % k + twisting.value(a, b)) % k);
            }
        }
        return adoptDraft();
    }

    public int power(int p, int what) {
        boolean known = p == 2 || p == 3 || p == 5 || p == 7;
        if (!known || what < 0 || what > 1 || !current.isRack()) {
            return NONE;
        }
        if (what == 0) {
            return solver.closedPower(current, p);
        }
        // Two g tell the same FLAT twist just if they differ by a g that is one number on each orbit.
        return current.n - splitIntoOrbits();
    }

    // ---- braids

    public boolean strands(int m) {
        if (m < 2 || m > MOST_STRANDS) {
            return false;
        }
        braid.width = m;
        braid.length = 0;
        return true;
    }

    public int letter(int i) {
        int last = braid.width - 1;
        if (i == 0 || i < -last || i > last || braid.length >= MOST_LETTERS) {
            return NONE;
        }
        braid.add(i);
        return braid.length;
    }

    public int colours() {
        if (!current.isRack()) {
            return NONE;
        }
        contrary.makeContrary(current);
        braid.tally(current, contrary, twisting);
        int all = 0;
        for (int sum = 0; sum < twisting.modulus; sum++) {
            all += braid.tallied(sum);
        }
        return all;
    }

    public int sums(int sum) {
        if (sum < 0 || sum >= twisting.modulus || !current.isRack()) {
            return NONE;
        }
        contrary.makeContrary(current);
        braid.tally(current, contrary, twisting);
        return braid.tallied(sum);
    }

    // ---- lists

    public int listed(int n, int what) {
        if (!isList(n, what)) {
            return NONE;
        }
        return lister.sizeOf(n, what == 1, namer);
    }

    public boolean pick(int n, int what, int i) {
        if (!isList(n, what) || i < 0 || i >= lister.sizeOf(n, what == 1, namer)) {
            return false;
        }
        lister.unpack(n, what == 1, i, draft);
        adoptDraft();
        return true;
    }

    public int row(int i) throws NoSuchElementException {
        if (i < 0 || i >= toldCount) {
            throw new NoSuchElementException("no such number in the row");
        }
        return told[i];
    }

    // ---- what the calls share

    private static boolean isSize(int n) {
        return n >= 1 && n <= MOST;
    }

    private static boolean isKeep(int k) {
        return k >= 0 && k < KEEPS;
    }

    private boolean isFilled(int k) {
        return isKeep(k) && keeps[k].n > 0;
    }

    private static boolean isList(int n, int what) {
        return n >= 1 && n <= MOST_LISTED && (what == 0 || what == 1);
    }

    /** The greatest number that divides both; n is 1 or more, and each number divides 0. */
    private static int commonPart(int t, int n) {
        for (int d = n; d > 1; d--) {
            if (n % d == 0 && t % d == 0) {
                return d;
            }
        }
        return 1;
    }

    /** Every call that makes the table as a whole ends here, so that none forgets the twist. */
    private int adoptDraft() {
        current.copy(draft);
        twisting.flatten();
        return current.n;
    }

    private void tell(int number) {
        if (toldCount < told.length) {
            told[toldCount] = number;
            toldCount++;
        }
    }

    private void tellTriple(int triple) {
        toldCount = 0;
        tell(triple / CELLS);
        tell(triple / MOST % MOST);
        tell(triple % MOST);
    }

    /** Puts the permutations of four things with the cycles of permutation p into peers: how many. */
    private int gatherPeers(int p) {
        int likeness = cycleSum(Permutations.numbered(GROUPED, p));
        int size = 0;
        for (int q = 0; q < FACTORIALS[GROUPED]; q++) {
            int other = Permutations.numbered(GROUPED, q);
            if (cycleSum(other) == likeness && size < peers.length) {
                peers[size] = other;
                size++;
            }
        }
        return size;
    }

    /**
     * The lengths of the cycles in which the four things are, added up: 4, 6, 8, 10 and 16 for the
     * five kinds of permutations, so the sum tells the kind.
     */
    private static int cycleSum(int permutation) {
        int sum = 0;
        for (int i = 0; i < GROUPED; i++) {
            int length = 1;
            int j = Permutations.image(permutation, i);
            while (j != i && length < GROUPED) {
                j = Permutations.image(permutation, j);
                length++;
            }
            sum += length;
        }
        return sum;
    }

    private int peerOf(int permutation, int size) {
        int found = 0;
        for (int i = 0; i < size; i++) {
            if (peers[i] == permutation) {
                found = i;
            }
        }
        return found;
    }

    private boolean holds(int what) {
        switch (what) {
            case 0:
                return current.isIdempotent();
            case 1:
                return current.isInvolutory();
            case 2:
                return splitIntoOrbits() == 1;
            case 3:
                return current.rowsDiffer();
            default:
                return current.columnsHaveAll();
        }
    }

    private int splitIntoOrbits() {
        classes.split(current.n);
        for (int a = 0; a < current.n; a++) {
            for (int b = 0; b < current.n; b++) {
                classes.join(b, current.turned(a, b));
            }
        }
        return classes.number();
    }

    private void joinWhatMustBeOne() {
        boolean changed = true;
        // Each round but the last makes two classes one, so n rounds are enough.
        for (int round = 0; round < current.n && changed; round++) {
            changed = false;
            for (int a = 0; a < current.n; a++) {
                for (int b = a + 1; b < current.n; b++) {
                    if (classes.areOne(a, b) && joinTurnsOf(a, b)) {
                        changed = true;
                    }
                }
            }
        }
    }

    private boolean joinTurnsOf(int a, int b) {
        boolean changed = false;
        for (int c = 0; c < current.n; c++) {
            boolean asTurning = classes.join(current.turned(a, c), current.turned(b, c));
            boolean asTurned = classes.join(current.turned(c, a), current.turned(c, b));
            changed = changed || asTurning || asTurned;
        }
        return changed;
    }

    private int closedSet(int bits) {
        int set = bits;
        int before = 0;
        // Each round but the last adds a thing, so n rounds are enough.
        for (int round = 0; round < current.n && set != before; round++) {
            before = set;
            for (int a = 0; a < current.n; a++) {
                for (int b = 0; b < current.n; b++) {
                    if ((set >> a & set >> b & 1) == 1) {
                        set |= 1 << current.turned(a, b);
                    }
                }
            }
        }
        return set;
    }

    /** Permutations held in one number, three bits for each image, so that they need no rows. */
    private static final class Permutations {
        private static final int BITS = 3;
        private static final int MASK = 7;

        static int image(int permutation, int i) {
            return permutation >> BITS * i & MASK;
        }

        static int with(int permutation, int i, int image) {
            return permutation | image << BITS * i;
        }

        static int identity(int n) {
            return numbered(n, 0);
        }

        /** Permutation p (0 .. n! - 1) of n things, in order of their rows. */
        static int numbered(int n, int p) {
            int permutation = 0;
            int used = 0;
            int rest = p;
            for (int i = 0; i < n; i++) {
                int block = FACTORIALS[n - 1 - i];
                int image = unusedNumber(used, rest / block);
                rest %= block;
                used |= 1 << image;
                permutation = with(permutation, i, image);
            }
            return permutation;
        }

        private static int unusedNumber(int used, int skip) {
            int left = skip;
            for (int i = 0; i < MOST; i++) {
                if ((used >> i & 1) == 0) {
                    if (left == 0) {
                        return i;
                    }
                    left--;
                }
            }
            return 0;
        }

        /** First the one, then the other. */
        static int after(int other, int one, int n) {
            int both = 0;
            for (int i = 0; i < n; i++) {
                both = with(both, i, image(other, image(one, i)));
            }
            return both;
        }

        static int contrary(int permutation, int n) {
            int back = 0;
            for (int i = 0; i < n; i++) {
                back = with(back, image(permutation, i), i);
            }
            return back;
        }
    }

    /** n things and what each turns each to; the cells in use hold 0 .. n - 1 and nothing else. */
    private static final class Table {
        private final int[] cells = new int[CELLS];
        private int n;

        Table(int n) {
            this.n = n;
        }

        boolean has(int a) {
            return a >= 0 && a < n;
        }

        int turned(int a, int b) {
            return cells[a * MOST + b];
        }

        void put(int a, int b, int v) {
            cells[a * MOST + b] = v;
        }

        void putRow(int a, int permutation) {
            for (int b = 0; b < n; b++) {
                put(a, b, Permutations.image(permutation, b));
            }
        }

        void copy(Table other) {
            n = other.n;
            System.arraycopy(other.cells, 0, cells, 0, CELLS);
        }

        /** The other one's rows must have each number once. */
        void makeContrary(Table other) {
            n = other.n;
            for (int a = 0; a < n; a++) {
                for (int b = 0; b < n; b++) {
                    put(a, other.turned(a, b), b);
                }
            }
        }

        int firstTornRow() {
            int all = (1 << n) - 1;
            for (int a = 0; a < n; a++) {
                int seen = 0;
                for (int b = 0; b < n; b++) {
                    seen |= 1 << turned(a, b);
                }
                if (seen != all) {
                    return a;
                }
            }
            return NONE;
        }

        /** The first a, b, c for which a:(b:c) is not (a:b):(a:c), as one number to the base 8. */
        int firstBrokenTriple() {
            for (int a = 0; a < n; a++) {
                for (int b = 0; b < n; b++) {
                    for (int c = 0; c < n; c++) {
                        if (turned(a, turned(b, c)) != turned(turned(a, b), turned(a, c))) {
                            return (a * MOST + b) * MOST + c;
                        }
                    }
                }
            }
            return NONE;
        }

        boolean isRack() {
            return firstTornRow() == NONE && firstBrokenTriple() == NONE;
        }

        boolean isIdempotent() {
            for (int a = 0; a < n; a++) {
                if (turned(a, a) != a) {
                    return false;
                }
            }
            return true;
        }

        boolean isInvolutory() {
            for (int a = 0; a < n; a++) {
                for (int b = 0; b < n; b++) {
                    if (turned(a, turned(a, b)) != b) {
                        return false;
                    }
                }
            }
            return true;
        }

        boolean rowsDiffer() {
            for (int a = 0; a < n; a++) {
                for (int other = a + 1; other < n; other++) {
                    if (rowsAreAlike(a, other)) {
                        return false;
                    }
                }
            }
            return true;
        }

        private boolean rowsAreAlike(int a, int other) {
            for (int b = 0; b < n; b++) {
                if (turned(a, b) != turned(other, b)) {
                    return false;
                }
            }
            return true;
        }

        boolean columnsHaveAll() {
            int all = (1 << n) - 1;
            for (int b = 0; b < n; b++) {
                int seen = 0;
                for (int a = 0; a < n; a++) {
                    seen |= 1 << turned(a, b);
                }
                if (seen != all) {
                    return false;
                }
            }
            return true;
        }
    }

    /** Things put into classes; a class goes by its least thing until the classes are numbered. */
    private static final class Classes {
        private final int[] leader = new int[MOST];
        private final int[] numbers = new int[MOST];
        private int n = 1;

        void split(int things) {
            n = things;
            for (int a = 0; a < n; a++) {
                leader[a] = a;
            }
        }

        boolean areOne(int a, int b) {
            return leader[a] == leader[b];
        }

        /** True, if they were in two classes. */
        boolean join(int a, int b) {
            int low = Math.min(leader[a], leader[b]);
            int high = Math.max(leader[a], leader[b]);
            for (int c = 0; c < n; c++) {
                if (leader[c] == high) {
                    leader[c] = low;
                }
            }
            return low != high;
        }

        /** Numbers the classes by their least things: how many there are. */
        int number() {
            int size = 0;
            for (int a = 0; a < n; a++) {
                if (leader[a] == a) {
                    numbers[a] = size;
                    size++;
                } else {
                    numbers[a] = numbers[leader[a]];
                }
            }
            return size;
        }

        int numberOf(int a) {
            return numbers[a];
        }
    }

    /** Looks for permutations of things that make one table of another. */
    private static final class Matcher {
        private static final int STANDS = 1;
        private static final int LETS_STAY = 1 << 7;
        private static final int STAYS = 1 << 11;
        private static final int KEEPS_ITSELF = 1 << 15;

        private final int[] signsHere = new int[MOST];
        private final int[] signsThere = new int[MOST];
        private final int[] images = new int[MOST];
        private int used = 0;

        boolean matches(Table from, Table to) {
            used = 0;
            tellSigns(from, signsHere);
            tellSigns(to, signsThere);
            return from.n == to.n && canGoOn(from, to, 0);
        }

        /**
         * A keeper that moves none of 0 .. a - 1 sends a to one of some things, and each of these as
         * often as any other: so the numbers of these things, multiplied, count the keepers, and one
         * keeper for each of them is all that must be looked for.
         */
        int countKeepers(Table table) {
            used = 0;
            tellSigns(table, signsHere);
            tellSigns(table, signsThere);
            int keepers = 1;
            for (int a = 0; a < table.n; a++) {
                int goals = 0;
                for (int b = a; b < table.n; b++) {
                    if (fits(table, table, a, b) && canGoOnWith(table, table, a, b)) {
                        goals++;
                    }
                }
                keepers *= goals;
                images[a] = a;
                used |= 1 << a;
            }
            return keepers;
        }

        /**
         * Things whose signs differ are no images of one another: without this, tables that differ in
         * a late cell alone would be found out only behind thousands of trials.
         */
        private static void tellSigns(Table table, int[] signs) {
            Arrays.fill(signs, 0);
            for (int a = 0; a < table.n; a++) {
                for (int b = 0; b < table.n; b++) {
                    int v = table.turned(a, b);
                    signs[v] += STANDS;
                    if (v == b) {
                        signs[a] += LETS_STAY;
                        signs[b] += STAYS;
                    }
                    if (v == b && a == b) {
                        signs[a] += KEEPS_ITSELF;
                    }
                }
            }
        }

        /** Whether the images of 0 .. a - 1 go on to images of all things. */
        private boolean canGoOn(Table from, Table to, int a) {
            if (a >= from.n) {
                return true;
            }
            for (int b = 0; b < to.n; b++) {
                if ((used >> b & 1) == 0 && fits(from, to, a, b) && canGoOnWith(from, to, a, b)) {
                    return true;
                }
            }
            return false;
        }

        private boolean canGoOnWith(Table from, Table to, int a, int b) {
            images[a] = b;
            used |= 1 << b;
            boolean found = canGoOn(from, to, a + 1);
            used &= ~(1 << b);
            return found;
        }

        /** Whether all turns among 0 .. a agree, b being the image of a. */
        private boolean fits(Table from, Table to, int a, int b) {
            if (signsHere[a] != signsThere[b]) {
                return false;
            }
            images[a] = b;
            int taken = used | 1 << b;
            for (int c = 0; c <= a; c++) {
                for (int d = 0; d <= a; d++) {
                    int here = from.turned(c, d);
                    int there = to.turned(images[c], images[d]);
                    boolean agree = here <= a ? images[here] == there : (taken >> there & 1) == 0;
                    if (!agree) {
                        return false;
                    }
                }
            }
            return true;
        }
    }

    /**
     * Finds the least table. Names are given in order: where a turn in row 0 comes to a thing without
     * a name, that thing gets the next one, as any other would make the table greater; only where a
     * column's own thing is open, each is tried.
     */
    private static final class Namer {
        private final Table best = new Table(1);
        private final int[] things = new int[MOST];
        private final int[] names = new int[MOST];
        private final int[] twins = new int[MOST];
        private final int[] firstRow = new int[MOST];
        private int named = 0;

        /** Makes best the least one like the source: true, if it is another one. */
        boolean lessen(Table source) {
            best.copy(source);
            named = 0;
            Arrays.fill(names, NONE);
            findTwins(source);
            nameColumn(source, 0);
            return !isBest(source);
        }

        private boolean isBest(Table source) {
            for (int a = 0; a < source.n; a++) {
                for (int b = 0; b < source.n; b++) {
                    if (source.turned(a, b) != best.turned(a, b)) {
                        return false;
                    }
                }
            }
            return true;
        }

        /** Twins can change their names and the table stays: it is enough to try one of them. */
        private void findTwins(Table source) {
            for (int a = 0; a < source.n; a++) {
                twins[a] = 0;
                for (int b = 0; b < a; b++) {
                    if (areTwins(source, a, b)) {
                        twins[a] |= 1 << b;
                    }
                }
            }
        }

        private static boolean areTwins(Table source, int a, int b) {
            for (int c = 0; c < source.n; c++) {
                for (int d = 0; d < source.n; d++) {
                    int there = source.turned(swapped(c, a, b), swapped(d, a, b));
                    if (there != swapped(source.turned(c, d), a, b)) {
                        return false;
                    }
                }
            }
            return true;
        }

        private static int swapped(int c, int a, int b) {
            if (c == a) {
                return b;
            }
            return c == b ? a : c;
        }

        private void nameColumn(Table source, int column) {
            if (column >= source.n) {
                if (isLess(source)) {
                    makeBest(source);
                }
                return;
            }
            if (named > column) {
                goThrough(source, column);
                return;
            }
            for (int a = 0; a < source.n; a++) {
                if (names[a] == NONE && !hasOpenTwin(source.n, a)) {
                    give(a);
                    goThrough(source, column);
                    takeBack(a);
                }
            }
        }

        private boolean hasOpenTwin(int n, int a) {
            for (int b = 0; b < a && b < n; b++) {
                if ((twins[a] >> b & 1) == 1 && names[b] == NONE) {
                    return true;
                }
            }
            return false;
        }

        private void goThrough(Table source, int column) {
            int value = source.turned(things[0], things[column]);
            boolean open = names[value] == NONE;
            if (open) {
                give(value);
            }
            firstRow[column] = names[value];
            if (!isAboveBest(column)) {
                nameColumn(source, column + 1);
            }
            if (open) {
                takeBack(value);
            }
        }

        private void give(int thing) {
            things[named] = thing;
            names[thing] = named;
            named++;
        }

        private void takeBack(int thing) {
            named--;
            names[thing] = NONE;
        }

        private boolean isAboveBest(int column) {
            for (int b = 0; b <= column; b++) {
                if (firstRow[b] != best.turned(0, b)) {
                    return firstRow[b] > best.turned(0, b);
                }
            }
            return false;
        }

        private void makeBest(Table source) {
            for (int i = 0; i < source.n; i++) {
                for (int j = 0; j < source.n; j++) {
                    best.put(i, j, names[source.turned(things[i], things[j])]);
                }
            }
        }

        private boolean isLess(Table source) {
            for (int i = 0; i < source.n; i++) {
                for (int j = 0; j < source.n; j++) {
                    int value = names[source.turned(things[i], things[j])];
                    if (value != best.turned(i, j)) {
                        return value < best.turned(i, j);
                    }
                }
            }
            return false;
        }
    }

    /**
     * Counts the group that a rack's rows make. The sieve has, for each j and k, at most one
     * permutation that moves none of 0 .. j - 1 and sends j to k. Level by level, those that move
     * nothing below the level make all such permutations of the group; how many things they send the
     * level to is one factor of the group's size, and their Schreier products make the next level's.
     */
    private static final class TurnGroup {
        private final int[] sieve = new int[CELLS];
        private final int[] carriers = new int[MOST];
        private final int[] reached = new int[MOST];

        int orderOf(Table rack) {
            Arrays.fill(sieve, NONE);
            for (int a = 0; a < rack.n; a++) {
                int permutation = 0;
                for (int b = 0; b < rack.n; b++) {
                    permutation = Permutations.with(permutation, b, rack.turned(a, b));
                }
                sift(permutation, rack.n);
            }
            int order = 1;
            for (int level = 0; level < rack.n; level++) {
                int size = reachFrom(level, rack.n);
                order *= size;
                siftProducts(level, size, rack.n);
            }
            return order;
        }

        private void sift(int permutation, int n) {
            int rest = permutation;
            for (int j = 0; j < n; j++) {
                int k = Permutations.image(rest, j);
                if (k != j) {
                    int slot = j * MOST + k;
                    if (sieve[slot] == NONE) {
                        sieve[slot] = rest;
                        return;
                    }
                    rest = Permutations.after(Permutations.contrary(sieve[slot], n), rest, n);
                }
            }
        }

        /** Fills reached with what the level's permutations send the level to, carriers with how. */
        private int reachFrom(int level, int n) {
            Arrays.fill(carriers, NONE);
            carriers[level] = Permutations.identity(n);
            reached[0] = level;
            int size = 1;
            for (int next = 0; next < size && next < n; next++) {
                int from = reached[next];
                for (int slot = level * MOST; slot < CELLS; slot++) {
                    int to = sieve[slot] == NONE ? from : Permutations.image(sieve[slot], from);
                    if (carriers[to] == NONE && size < n) {
                        carriers[to] = Permutations.after(sieve[slot], carriers[from], n);
                        reached[size] = to;
                        size++;
                    }
                }
            }
            return size;
        }

        private void siftProducts(int level, int size, int n) {
            for (int next = 0; next < size; next++) {
                int from = reached[next];
                for (int slot = level * MOST; slot < CELLS; slot++) {
                    if (sieve[slot] != NONE) {
                        int there = Permutations.after(sieve[slot], carriers[from], n);
                        int back = Permutations.contrary(carriers[Permutations.image(there, level)], n);
                        sift(Permutations.after(back, there, n), n);
                    }
                }
            }
        }
    }

    /** A number by the modulus for each two things. */
    private static final class Twist {
        private final int[] values = new int[CELLS];
        private int modulus = 2;

        void flatten() {
            Arrays.fill(values, 0);
        }

        int value(int a, int b) {
            return values[a * MOST + b];
        }

        void put(int a, int b, int v) {
            values[a * MOST + b] = v;
        }

        /** The first a, b, c for which the twist is not closed, as one number to the base 8. */
        int firstOpenTriple(Table rack) {
            for (int a = 0; a < rack.n; a++) {
                for (int b = 0; b < rack.n; b++) {
                    for (int c = 0; c < rack.n; c++) {
                        int one = value(b, c) + value(a, rack.turned(b, c));
                        int other = value(a, c) + value(rack.turned(a, b), rack.turned(a, c));
                        if ((one - other) % modulus != 0) {
                            return (a * MOST + b) * MOST + c;
                        }
                    }
                }
            }
            return NONE;
        }
    }

    /** Solves for closed twists by a prime: an unknown for each two things, a row for each three. */
    private static final class Solver {
        private final int[] steps = new int[CELLS * CELLS];
        private final int[] equation = new int[CELLS];
        private int things = 1;
        private int unknowns = 1;
        private int prime = 2;
        private long leads = 0;

        /** How many unknowns stay free. */
        int closedPower(Table rack, int p) {
            prime = p;
            things = rack.n;
            unknowns = things * things;
            leads = 0;
            int free = unknowns;
            for (int a = 0; a < rack.n; a++) {
                for (int b = 0; b < rack.n; b++) {
                    for (int c = 0; c < rack.n; c++) {
                        tellEquation(rack, a, b, c);
                        if (bindsOne()) {
                            free--;
                        }
                    }
                }
            }
            return free;
        }

        private void tellEquation(Table rack, int a, int b, int c) {
            Arrays.fill(equation, 0);
            addTerm(b, c, 1);
            addTerm(a, rack.turned(b, c), 1);
            addTerm(a, c, prime - 1);
            addTerm(rack.turned(a, b), rack.turned(a, c), prime - 1);
        }

        private void addTerm(int a, int b, int factor) {
            int unknown = a * things + b;
            equation[unknown] = (equation[unknown] + factor) % prime;
        }

        /** Whether the equation says more than those ahead of it; then it becomes a step itself. */
        private boolean bindsOne() {
            for (int lead = 0; lead < unknowns; lead++) {
                if (equation[lead] != 0) {
                    if ((leads >> lead & 1L) == 0L) {
                        leads |= 1L << lead;
                        keepStep(lead);
                        return true;
                    }
                    clearLead(lead);
                }
            }
            return false;
        }

        private void keepStep(int lead) {
            int factor = inverse(equation[lead]);
            for (int i = lead; i < unknowns; i++) {
                steps[lead * CELLS + i] = equation[i] * factor % prime;
            }
        }

        private void clearLead(int lead) {
            int factor = prime - equation[lead];
            for (int i = lead; i < unknowns; i++) {
                equation[i] = (equation[i] + factor * steps[lead * CELLS + i]) % prime;
            }
        }

        private int inverse(int number) {
            for (int i = 1; i < prime; i++) {
                if (number * i % prime == 1) {
                    return i;
                }
            }
            return 1;
        }
    }

    /** Strands and a word of letters, and the colourings of the closed braid. */
    private static final class Braid {
        private final int[] word = new int[MOST_LETTERS];
        private final int[] ahead = new int[MOST_STRANDS];
        private final int[] now = new int[MOST_STRANDS];
        private final int[] tallies = new int[MOST_MODULUS];
        private int width = 2;
        private int length = 0;

        void add(int letter) {
            if (length < MOST_LETTERS) {
                word[length] = letter;
                length++;
            }
        }

        int tallied(int sum) {
            return tallies[sum];
        }

        /** Counts the colourings of each sum. */
        void tally(Table rack, Table contrary, Twist twist) {
            Arrays.fill(tallies, 0);
            int all = 1;
            for (int s = 0; s < width; s++) {
                all *= rack.n;
            }
            for (int start = 0; start < all; start++) {
                spread(start, rack.n);
                int sum = 0;
                for (int i = 0; i < length; i++) {
                    sum += word[i] > 0 ? cross(word[i], rack, twist) : uncross(-word[i], contrary, twist);
                }
                if (isAsAhead()) {
                    tallies[Math.floorMod(sum, twist.modulus)]++;
                }
            }
        }

        private void spread(int start, int n) {
            int rest = start;
            for (int s = 0; s < width; s++) {
                ahead[s] = rest % n;
                now[s] = ahead[s];
                rest /= n;
            }
        }

        private int cross(int i, Table rack, Twist twist) {
            int x = now[i - 1];
            int y = now[i];
            now[i - 1] = rack.turned(x, y);
            now[i] = x;
            return twist.value(x, y);
        }

        private int uncross(int i, Table contrary, Twist twist) {
            int x = now[i - 1];
            int y = now[i];
            int z = contrary.turned(y, x);
            now[i - 1] = y;
            now[i] = z;
            return -twist.value(y, z);
        }

        private boolean isAsAhead() {
            for (int s = 0; s < width; s++) {
                if (now[s] != ahead[s]) {
                    return false;
                }
            }
            return true;
        }
    }

    /** The least racks of up to four things, found once each and held in one number, two bits a cell. */
    private static final class Lister {
        private static final int ROOM = 19;
        private static final int BITS = 2;
        private static final int MASK = 3;

        private final int[][] racks = new int[MOST_LISTED + 1][ROOM];
        private final int[] sizes = new int[MOST_LISTED + 1];
        private final Table trial = new Table(1);

        int sizeOf(int n, boolean quandles, Namer namer) {
            if (sizes[n] == 0) {
                trial.n = n;
                fillRow(0, namer);
            }
            int size = 0;
            for (int i = 0; i < sizes[n]; i++) {
                if (!quandles || isQuandle(n, racks[n][i])) {
                    size++;
                }
            }
            return size;
        }

        /** The list of n must have been found. */
        void unpack(int n, boolean quandles, int place, Table into) {
            int left = place;
            for (int i = 0; i < sizes[n]; i++) {
                if (!quandles || isQuandle(n, racks[n][i])) {
                    if (left == 0) {
                        unpackCells(n, racks[n][i], into);
                    }
                    left--;
                }
            }
        }

        private static void unpackCells(int n, int rack, Table into) {
            into.n = n;
            for (int a = 0; a < n; a++) {
                for (int b = 0; b < n; b++) {
                    into.put(a, b, cell(n, rack, a, b));
                }
            }
        }

        private static int cell(int n, int rack, int a, int b) {
            return rack >>> BITS * (a * n + b) & MASK;
        }

        private static boolean isQuandle(int n, int rack) {
            for (int a = 0; a < n; a++) {
                if (cell(n, rack, a, a) != a) {
                    return false;
                }
            }
            return true;
        }

        /** Rows are tried in order of their numbers, so the racks are found in order, too. */
        private void fillRow(int a, Namer namer) {
            if (a >= trial.n) {
                if (!namer.lessen(trial)) {
                    keepTrial();
                }
                return;
            }
            for (int p = 0; p < FACTORIALS[trial.n]; p++) {
                trial.putRow(a, Permutations.numbered(trial.n, p));
                if (agreesUpTo(a)) {
                    fillRow(a + 1, namer);
                }
            }
        }

        /** Whether a:(b:c) is (a:b):(a:c) wherever all rows that it needs are up to the last. */
        private boolean agreesUpTo(int last) {
            for (int a = 0; a <= last; a++) {
                for (int b = 0; b <= last; b++) {
                    int ab = trial.turned(a, b);
                    for (int c = 0; c < trial.n && ab <= last; c++) {
                        if (trial.turned(a, trial.turned(b, c)) != trial.turned(ab, trial.turned(a, c))) {
                            return false;
                        }
                    }
                }
            }
            return true;
        }

        private void keepTrial() {
            int n = trial.n;
            int rack = 0;
            for (int a = 0; a < n; a++) {
                for (int b = 0; b < n; b++) {
                    rack |= trial.turned(a, b) << BITS * (a * n + b);
                }
            }
            if (sizes[n] < ROOM) {
                racks[n][sizes[n]] = rack;
                sizes[n]++;
            }
        }
    }
}
