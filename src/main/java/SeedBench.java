import java.util.Arrays;

/**
 * A bench of seeds and of rings cut into thirds.
 *
 * <p>The words of the document are used throughout: a seed has places with letters, held ones and a
 * table; a letter is a share, a sum of terms; a ring has corners and fences.
 */
public final class SeedBench {
    public static final int NONE = -1;

    private static final int SPENT = -2;
    private static final int NO_MORE_TURNS = -3;

    private static final int MOST_PLACES = 6;
    private static final int MOST_HELD = 6;
    private static final int MOST_ROWS = MOST_PLACES + MOST_HELD;
    private static final int CELLS = MOST_ROWS * MOST_PLACES;
    private static final int MOST_TOLD = 9;
    private static final int MOST_ENTRY = 9999;
    private static final int MOST_TERMS = 200;
    private static final long MOST_NUMBER = 1000000000000L;
    private static final int MOST_TURNS = 100;
    private static final int KEPT = 4;
    private static final int MOST_ROW = 12;
    private static final int MOST_TIMES = 40;
    private static final int MOST_SEEDS = 150;
    private static final int MOST_LETTERS = 100;
    private static final int MOST_TABLES = 3000;
    private static final int SLOTS = 8192;
    private static final int RINGS = 2;
    private static final int LEAST_CORNERS = 4;
    private static final int MOST_CORNERS = 10;
    private static final int MOST_FLIPS = 64;

    private final Seed seed = new Seed();
    private final Draft draft = new Draft();
    private final Mill mill = new Mill();
    private final int[] turned = new int[MOST_TURNS];
    private int turns;
    private final Seed[] kept = new Seed[KEPT];
    private final int[] rowPlaces = new int[MOST_ROW];
    private int rowLength;
    private final Seed walker = new Seed();
    private final Atlas atlas = new Atlas();
    private int seedsOfAll;
    private final Book book = new Book();
    private final Kinds kinds = new Kinds();
    private final Ring[] rings = new Ring[RINGS];
    private final Guide guide = new Guide();

    /** Makes all that the calls will need, at its full size: all calls of a run share one room, so none makes more. */
    public SeedBench() {
        seed.start(1, 0, draft.table, draft.sizes);
        seed.sizes[0] = 1;
        for (int k = 0; k < KEPT; k++) {
            kept[k] = new Seed();
        }
        for (int s = 0; s < RINGS; s++) {
            rings[s] = new Ring();
        }
    }

    // ---- the table that is being told, and the seed

    public boolean table(int n, int m) {
        if (n < 1 || n > MOST_PLACES || m < 0 || m > MOST_HELD) {
            return false;
        }
        draft.restart(n, m);
        return true;
    }

    public boolean arrows(int i, int j, int v) {
        if (!isCell(draft.places, draft.held, i, j) || v < -MOST_TOLD || v > MOST_TOLD) {
            return false;
        }
        draft.table[i * MOST_PLACES + j] = v;
        return true;
    }

    public int begin() {
        if (draft.places == 0) {
            return NONE;
        }
        int fault = draft.fault();
        if (fault == 0) {
            startSeed();
        }
        return fault;
    }

    public int size(int i) {
        return isPlace(i) ? (int) seed.sizes[i] : 0;
    }

    public int turn(int k) {
        if (!isPlace(k)) {
            return NONE;
        }
        if (!mill.exchange(seed, k)) {
            return SPENT;
        }
        if (turns >= MOST_TURNS) {
            return NO_MORE_TURNS;
        }
        mill.settle(seed, k);
        turned[turns] = k;
        turns++;
        return seed.letters[k].length;
    }

    public boolean back() {
        if (turns < 1 || turns > MOST_TURNS) {
            return false;
        }
        // A turn done twice is none: the sum N is the same both times, so it can't be spent either.
        int k = turned[turns - 1];
        if (!isPlace(k) || !mill.exchange(seed, k)) {
            return false;
        }
        mill.settle(seed, k);
        turns--;
        return true;
    }

    public int b(int i, int j) {
        return isCell(seed.places, seed.held, i, j) ? seed.table[i * MOST_PLACES + j] : 0;
    }

    public int terms(int i) {
        return isPlace(i) ? seed.letters[i].length : 0;
    }

    public long term(int i, int t, int v) {
        if (!isPlace(i)) {
            return 0;
        }
        Share letter = seed.letters[i];
        if (t < 0 || t >= letter.length) {
            return 0;
        }
        if (v == NONE) {
            return letter.numbers[t];
        }
        return letter.hasVariable(v) ? letter.powers[t * letter.width + v] : 0;
    }

    public int least(int i, int v) {
        return isPlace(i) && seed.letters[i].hasVariable(v) ? seed.letters[i].leastPower(v) : 0;
    }

    public long ones(int i) {
        return isPlace(i) ? seed.letters[i].sum() : 0;
    }

    public boolean keep(int k) {
        if (k < 0 || k >= KEPT) {
            return false;
        }
        kept[k].copyFrom(seed);
        return true;
    }

    public int same(int k) {
        // A seed has a place at least, so what has none was never kept.
        if (k < 0 || k >= KEPT || kept[k].places == 0) {
            return NONE;
        }
        return seed.isSameAs(kept[k]) ? 1 : 0;
    }

    // ---- all seeds, finite kinds, rows of turns

    public int all() {
        int seeds = atlas.explore(seed, mill);
        seedsOfAll = Math.max(seeds, 0);
        return seeds;
    }

    public long what(int i, int what) {
        return atlas.tell(i, what);
    }

    public int finite() {
        return kinds.judge(seed.table, seed.places, book);
    }

    public int step(int i) {
        return i < 0 || i >= kinds.steps ? NONE : kinds.path[i];
    }

    public int tables() {
        return kinds.seen;
    }

    public boolean row(int n, int i, int k) {
        if (n < 1 || n > MOST_ROW || i < 0 || i >= n || k < 0 || k >= MOST_PLACES) {
            return false;
        }
        if (n != rowLength) {
            rowLength = n;
            Arrays.fill(rowPlaces, 0);
        }
        rowPlaces[i] = k;
        return true;
    }

    public int order() {
        if (rowLength == 0) {
            return NONE;
        }
        for (int i = 0; i < rowLength; i++) {
            if (!isPlace(rowPlaces[i])) {
                return NONE;
            }
        }
        walker.copyFrom(seed);
        for (int times = 1; times <= MOST_TIMES; times++) {
            if (!walkRow()) {
                return SPENT;
            }
            if (walker.isSameAs(seed)) {
                return times;
            }
        }
        return SPENT;
    }

    // ---- rings

    public boolean ring(int s, int corners) {
        if (!isSlot(s) || corners < LEAST_CORNERS || corners > MOST_CORNERS) {
            return false;
        }
        rings[s].corners = corners;
        rings[s].fences = 0;
        return true;
    }

    public int fence(int s, int a, int b) {
        if (!isSlot(s)) {
            return NONE;
        }
        Ring ring = rings[s];
        if (!ring.isCorner(a) || !ring.isCorner(b) || a == b || ring.areNeighbours(a, b)) {
            return NONE;
        }
        if (ring.has(a, b) || ring.isCrossed(Math.min(a, b), Math.max(a, b))) {
            return NONE;
        }
        ring.fences |= Ring.bit(a, b);
        return ring.fenceCount();
    }

    public int flip(int s, int a, int b) {
        if (!isSlot(s) || !rings[s].isCut()) {
            return NONE;
        }
        Ring ring = rings[s];
        if (!ring.isCorner(a) || !ring.isCorner(b) || !ring.has(a, b)) {
            return NONE;
        }
        int other = ring.otherFence(Math.min(a, b), Math.max(a, b));
        if (other != NONE) {
            ring.fences ^= Ring.bit(a, b) ^ Ring.bit(other / 100, other % 100);
        }
        return other;
    }

    public int ringOf(int s, int what) {
        return isSlot(s) ? rings[s].tell(what) : NONE;
    }

    public long frieze(int s, int i, int j) {
        if (!isSlot(s) || !rings[s].isCut() || !rings[s].isCorner(i)) {
            return 0;
        }
        if (j < i || j > i + rings[s].corners) {
            return 0;
        }
        return rings[s].friezeNumber(i, j);
    }

    public int way() {
        if (!rings[0].isCut() || !rings[1].isCut() || rings[0].corners != rings[1].corners) {
            return NONE;
        }
        guide.measure(rings[0], rings[1], book);
        return guide.lead(rings[0], book);
    }

    public int goes(int i) {
        return i < 0 || i >= guide.flips ? NONE : guide.gone[i];
    }

    public boolean seed(int s) {
        if (!isSlot(s) || !rings[s].isCut() || rings[s].corners - 3 > MOST_PLACES) {
            return false;
        }
        draft.restart(rings[s].corners - 3, 0);
        rings[s].tellArrows(draft.table);
        if (draft.fault() != 0) {
            return false;
        }
        startSeed();
        return true;
    }

    public int count(int what) {
        switch (what) {
            case 0:
                return seed.places;
            case 1:
                return seed.held;
            case 2:
                return turns;
            case 3:
                return seed.allTerms();
            case 4:
                return seedsOfAll;
            default:
                return NONE;
        }
    }

    // ---- what the public calls share

    private boolean isPlace(int i) {
        return i >= 0 && i < seed.places;
    }

    private static boolean isCell(int places, int held, int i, int j) {
        return i >= 0 && i < places + held && j >= 0 && j < places;
    }

    private static boolean isSlot(int s) {
        return s >= 0 && s < RINGS;
    }

    private void startSeed() {
        seed.start(draft.places, draft.held, draft.table, draft.sizes);
        turns = 0;
    }

    private boolean walkRow() {
        for (int i = 0; i < rowLength; i++) {
            if (!mill.exchange(walker, rowPlaces[i])) {
                return false;
            }
            mill.settle(walker, rowPlaces[i]);
        }
        return true;
    }

    /** What b(i, j) is behind a turn at k, i and j being others than k. */
    private static int turnedEntry(int[] table, int i, int j, int k) {
        int in = table[i * MOST_PLACES + k];
        int out = table[k * MOST_PLACES + j];
        boolean alongArrows = in > 0 && out > 0 || in < 0 && out < 0;
        return table[i * MOST_PLACES + j] + (alongArrows ? Math.abs(in) * out : 0);
    }

    private static boolean isTableTurnable(int[] table, int rows, int places, int k) {
        for (int i = 0; i < rows; i++) {
            for (int j = 0; j < places; j++) {
                if (i != k && j != k && Math.abs(turnedEntry(table, i, j, k)) > MOST_ENTRY) {
                    return false;
                }
            }
        }
        return true;
    }

    private static void turnTable(int[] table, int rows, int places, int k) {
        // Row and column k are what the others are worked out from, so they change last.
        for (int i = 0; i < rows; i++) {
            for (int j = 0; j < places; j++) {
                if (i != k && j != k) {
                    table[i * MOST_PLACES + j] = turnedEntry(table, i, j, k);
                }
            }
        }
        for (int i = 0; i < rows; i++) {
            table[i * MOST_PLACES + k] = -table[i * MOST_PLACES + k];
        }
        for (int j = 0; j < places; j++) {
            if (j != k) {
                table[k * MOST_PLACES + j] = -table[k * MOST_PLACES + j];
            }
        }
    }

    /** A sum of terms, the greater powers first. Its rows have room for the most terms that there can be. */
    private static final class Share {
        int width;
        int length;
        final long[] numbers = new long[MOST_TERMS];
        final int[] powers = new int[MOST_TERMS * MOST_ROWS];

        void clear(int variables) {
            width = variables;
            length = 0;
        }

        void becomeVariable(int v, int variables) {
            clear(variables);
            length = 1;
            numbers[0] = 1;
            for (int u = 0; u < variables; u++) {
                powers[u] = u == v ? 1 : 0;
            }
        }

        void copyFrom(Share other) {
            clear(other.width);
            length = other.length;
            System.arraycopy(other.numbers, 0, numbers, 0, length);
            System.arraycopy(other.powers, 0, powers, 0, length * width);
        }

        boolean hasVariable(int v) {
            return v >= 0 && v < width;
        }

        /** The term with these powers, looked for from a term on; if there is none, -1 - the one it would be. */
        int find(int[] key, int from) {
            int low = from;
            int high = length - 1;
            for (int tries = 0; tries < MOST_TERMS && low <= high; tries++) {
                int middle = (low + high) >>> 1;
                int at = middle * width;
                int v = 0;
                while (v < width && powers[at + v] == key[v]) {
                    v++;
                }
                if (v == width) {
                    return middle;
                }
                if (powers[at + v] > key[v]) {
                    low = middle + 1;
                } else {
                    high = middle - 1;
                }
            }
            return -1 - low;
        }

        /** Adds a term that has its place at from or behind it: which one it is then; NONE if that is too much. */
        int add(int[] key, long number, int from) {
            int at = find(key, from);
            if (at >= 0) {
                numbers[at] += number;
                return numbers[at] > MOST_NUMBER ? NONE : at;
            }
            if (length >= MOST_TERMS || number > MOST_NUMBER) {
                return NONE;
            }
            int to = -1 - at;
            System.arraycopy(numbers, to, numbers, to + 1, length - to);
            System.arraycopy(powers, to * width, powers, (to + 1) * width, (length - to) * width);
            numbers[to] = number;
            System.arraycopy(key, 0, powers, to * width, width);
            length++;
            return to;
        }

        boolean isLike(Share other) {
            if (length != other.length || width != other.width) {
                return false;
            }
            for (int t = 0; t < length; t++) {
                if (numbers[t] != other.numbers[t]) {
                    return false;
                }
            }
            for (int c = 0; c < length * width; c++) {
                if (powers[c] != other.powers[c]) {
                    return false;
                }
            }
            return true;
        }

        int leastPower(int v) {
            int least = length > 0 ? powers[v] : 0;
            for (int t = 1; t < length; t++) {
                least = Math.min(least, powers[t * width + v]);
            }
            return least;
        }

        long sum() {
            long sum = 0;
            for (int t = 0; t < length; t++) {
                sum += numbers[t];
            }
            return sum;
        }
    }

    private static final class Seed {
        int places;
        int held;
        final int[] table = new int[CELLS];
        final long[] sizes = new long[MOST_PLACES];
        final Share[] letters = new Share[MOST_PLACES];
        private final int[] to = new int[MOST_PLACES];

        Seed() {
            for (int i = 0; i < MOST_PLACES; i++) {
                letters[i] = new Share();
            }
        }

        void start(int n, int m, int[] told, long[] toldSizes) {
            places = n;
            held = m;
            System.arraycopy(told, 0, table, 0, CELLS);
            System.arraycopy(toldSizes, 0, sizes, 0, MOST_PLACES);
            for (int i = 0; i < n; i++) {
                letters[i].becomeVariable(i, n + m);
            }
        }

        void copyFrom(Seed other) {
            places = other.places;
            held = other.held;
            System.arraycopy(other.table, 0, table, 0, CELLS);
            System.arraycopy(other.sizes, 0, sizes, 0, MOST_PLACES);
            for (int i = 0; i < places; i++) {
                letters[i].copyFrom(other.letters[i]);
            }
        }

        int allTerms() {
            int all = 0;
            for (int i = 0; i < places; i++) {
                all += letters[i].length;
            }
            return all;
        }

        boolean isSameAs(Seed other) {
            if (places != other.places || held != other.held) {
                return false;
            }
            // Letters of a seed never are alike, so there is one order of places at most to look at.
            for (int i = 0; i < places; i++) {
                to[i] = other.placeOf(letters[i]);
                if (to[i] == NONE) {
                    return false;
                }
            }
            return hasTable(other.table, 0, to);
        }

        private int placeOf(Share letter) {
            for (int i = 0; i < places; i++) {
                if (letters[i].isLike(letter)) {
                    return i;
                }
            }
            return NONE;
        }

        /** Is the table the same as the one that begins at a cell of others, where place i stands at seats[i]? */
        boolean hasTable(int[] others, int first, int[] seats) {
            for (int i = 0; i < places + held; i++) {
                int row = i < places ? seats[i] : i;
                for (int j = 0; j < places; j++) {
                    if (table[i * MOST_PLACES + j] != others[first + row * MOST_PLACES + seats[j]]) {
                        return false;
                    }
                }
            }
            return true;
        }
    }

    /** The table that is being told; of no places, while none is. */
    private static final class Draft {
        int places;
        int held;
        final int[] table = new int[CELLS];
        final long[] sizes = new long[MOST_PLACES];
        private final int[] group = new int[MOST_PLACES];

        void restart(int n, int m) {
            places = n;
            held = m;
            Arrays.fill(table, 0);
        }

        /** 0 if the table is good (its sizes are known then), else what is wrong with it, as begin() tells. */
        int fault() {
            for (int i = 0; i < places; i++) {
                if (table[i * MOST_PLACES + i] != 0) {
                    return 1;
                }
            }
            for (int i = 0; i < places; i++) {
                for (int j = 0; j < i; j++) {
                    int one = table[i * MOST_PLACES + j];
                    int other = table[j * MOST_PLACES + i];
                    if (Integer.signum(one) != -Integer.signum(other)) {
                        return 2;
                    }
                }
            }
            return findSizes() ? 0 : 3;
        }

        private boolean findSizes() {
            Arrays.fill(sizes, 0);
            for (int i = 0; i < places; i++) {
                if (sizes[i] == 0) {
                    sizeGroup(i);
                }
            }
            for (int i = 0; i < places; i++) {
                for (int j = 0; j < i; j++) {
                    long one = sizes[i] * table[i * MOST_PLACES + j];
                    long other = sizes[j] * table[j * MOST_PLACES + i];
                    if (one != -other) {
                        return false;
                    }
                }
            }
            return true;
        }

        private void sizeGroup(int first) {
            int members = 1;
            group[0] = first;
            sizes[first] = 1;
            for (int at = 0; at < members && at < MOST_PLACES; at++) {
                int i = group[at];
                for (int j = 0; j < places; j++) {
                    if (sizes[j] == 0 && table[i * MOST_PLACES + j] != 0) {
                        sizes[j] = sizeAlong(i, j, members);
                        group[members] = j;
                        members++;
                    }
                }
            }
        }

        /**
         * The size of j by that of i; those of the group so far are made greater, if it would not be whole. What they
         * are made greater by has no divisor in common with the new one, so that all together stay the least.
         */
        private long sizeAlong(int i, int j, int members) {
            long above = sizes[i] * Math.abs(table[i * MOST_PLACES + j]);
            long below = Math.abs(table[j * MOST_PLACES + i]);
            long common = greatestDivisor(above, below);
            if (common == 0) {
                return above;
            }
            for (int at = 0; at < members; at++) {
                sizes[group[at]] *= below / common;
            }
            return above / common;
        }

        private static long greatestDivisor(long a, long b) {
            long one = a;
            long other = b;
            for (int tries = 0; tries < 200 && other != 0; tries++) {
                long rest = one % other;
                one = other;
                other = rest;
            }
            return one;
        }
    }

    /** Works out turns, in rows that are used again. */
    private static final class Mill {
        Share fresh = new Share();
        private final Share one = new Share();
        private final Share oneMore = new Share();
        private final Share two = new Share();
        private final Share twoMore = new Share();
        private final int[] key = new int[MOST_ROWS];
        private final int[] gap = new int[MOST_ROWS];

        /** Makes fresh the letter that a turn at k brings; false if the turn is spent. The seed stays. */
        boolean exchange(Seed seed, int k) {
            if (!isTableTurnable(seed.table, seed.places + seed.held, seed.places, k)) {
                return false;
            }
            Share in = product(seed, k, 1, one, oneMore);
            Share out = product(seed, k, -1, two, twoMore);
            if (in == null || out == null || !addAll(in, out)) {
                return false;
            }
            return divide(in, seed.letters[k]);
        }

        /** Does the turn at k that exchange() has worked out. */
        void settle(Seed seed, int k) {
            Share gone = seed.letters[k];
            seed.letters[k] = fresh;
            fresh = gone;
            turnTable(seed.table, seed.places + seed.held, seed.places, k);
        }

        /** One of the two products, in one of the two shares given; null if it is too much. */
        private Share product(Seed seed, int k, int sign, Share begun, Share other) {
            Share now = begun;
            Share next = other;
            if (!beginProduct(seed, k, sign, now)) {
                return null;
            }
            for (int i = 0; i < seed.places; i++) {
                // All parts are above 0: what is too much on the way is too much in the end.
                int times = seed.letters[i].length > 1 ? sign * seed.table[i * MOST_PLACES + k] : 0;
                for (int done = 0; done < times; done++) {
                    if (!multiply(now, seed.letters[i], next)) {
                        return null;
                    }
                    Share full = next;
                    next = now;
                    now = full;
                }
            }
            return now;
        }

        /** Begins a product with what has one term only, which can be taken many times at once. */
        private boolean beginProduct(Seed seed, int k, int sign, Share product) {
            int width = seed.places + seed.held;
            long number = 1;
            Arrays.fill(key, 0);
            for (int i = 0; i < width; i++) {
                int times = sign * seed.table[i * MOST_PLACES + k];
                if (times > 0 && i >= seed.places) {
                    key[i] += times;
                } else if (times > 0 && seed.letters[i].length == 1) {
                    Share letter = seed.letters[i];
                    for (int v = 0; v < width; v++) {
                        key[v] += times * letter.powers[v];
                    }
                    for (int done = 0; done < times && letter.numbers[0] > 1 && number > 0; done++) {
                        number = multiplied(number, letter.numbers[0]);
                    }
                }
            }
            product.clear(width);
            return number > 0 && product.add(key, number, 0) != NONE;
        }

        private boolean multiply(Share a, Share b, Share product) {
            // A product has at least as many terms as both have together, less one.
            if (a.length + b.length - 1 > MOST_TERMS) {
                return false;
            }
            int width = a.width;
            product.clear(width);
            for (int s = 0; s < a.length; s++) {
                int from = 0;
                for (int t = 0; t < b.length; t++) {
                    long number = multiplied(a.numbers[s], b.numbers[t]);
                    if (number == NONE) {
                        return false;
                    }
                    for (int v = 0; v < width; v++) {
                        key[v] = a.powers[s * width + v] + b.powers[t * width + v];
                    }
                    // The terms of b come in order, so the next has its place behind this one.
                    from = product.add(key, number, from) + 1;
                    if (from == 0) {
                        return false;
                    }
                }
            }
            return true;
        }

        /** a times b, both above 0; NONE if it is above the greatest number. */
        private static long multiplied(long a, long b) {
            return b > 0 && a > MOST_NUMBER / b ? NONE : a * b;
        }

        private boolean addAll(Share sum, Share more) {
            int width = sum.width;
            for (int t = 0; t < more.length; t++) {
                System.arraycopy(more.powers, t * width, key, 0, width);
                if (sum.add(key, more.numbers[t], 0) == NONE) {
                    return false;
                }
            }
            return true;
        }

        /** Makes fresh the share that times the divisor is the sum, which is used up. */
        private boolean divide(Share sum, Share divisor) {
            int width = sum.width;
            fresh.clear(width);
            if (divisor.length == 0 || divisor.numbers[0] <= 0) {
                return false;
            }
            for (int lead = 0; lead < sum.length; lead++) {
                if (sum.numbers[lead] == 0) {
                    continue;
                }
                for (int v = 0; v < width; v++) {
                    gap[v] = sum.powers[lead * width + v] - divisor.powers[v];
                }
                long number = sum.numbers[lead] / divisor.numbers[0];
                if (fresh.add(gap, number, fresh.length) == NONE || !takeAway(sum, lead, divisor, number)) {
                    return false;
                }
            }
            return true;
        }

        /** Takes from the sum, at lead and behind it, the divisor times the term of a number and the powers gap. */
        private boolean takeAway(Share sum, int lead, Share divisor, long number) {
            int width = sum.width;
            int from = lead;
            for (int t = 0; t < divisor.length; t++) {
                for (int v = 0; v < width; v++) {
                    key[v] = gap[v] + divisor.powers[t * width + v];
                }
                // Numbers of a letter are above 0, so each term is in the sum.
                int at = sum.find(key, from);
                if (at < 0) {
                    return false;
                }
                sum.numbers[at] -= number * divisor.numbers[t];
                from = at + 1;
            }
            return sum.numbers[lead] == 0;
        }
    }

    /** The row of all seeds, each as numbers of its letters, and what is told of the latest that was not spent. */
    private static final class Atlas {
        private final Share[] letters = new Share[MOST_LETTERS];
        private int found;
        private final int[] seats = new int[MOST_SEEDS * MOST_PLACES];
        private final boolean[] explored = new boolean[MOST_SEEDS * MOST_PLACES];
        private final int[] tablesOf = new int[MOST_SEEDS * CELLS];
        private final long[] lowLetters = new long[MOST_SEEDS];
        private final long[] highLetters = new long[MOST_SEEDS];
        private int rows;
        private final Seed at = new Seed();
        private final int[] seatsAt = new int[MOST_PLACES];
        private long lowAt;
        private long highAt;
        private final int[] to = new int[MOST_PLACES];
        private int toldLetters = NONE;
        private int toldWidth;
        private final int[] toldTerms = new int[MOST_LETTERS];
        private final long[] toldSums = new long[MOST_LETTERS];
        private final int[] toldLeast = new int[MOST_LETTERS * MOST_ROWS];

        Atlas() {
            for (int i = 0; i < MOST_LETTERS; i++) {
                letters[i] = new Share();
            }
        }

        /** How many seeds there are; SPENT. */
        int explore(Seed first, Mill mill) {
            if (!enterFirst(first)) {
                return SPENT;
            }
            for (int r = 0; r < rows && r < MOST_SEEDS; r++) {
                for (int k = 0; k < at.places; k++) {
                    if (explored[r * MOST_PLACES + k]) {
                        continue;
                    }
                    load(r);
                    if (!mill.exchange(at, k)) {
                        return SPENT;
                    }
                    turnTable(at.table, at.places + at.held, at.places, k);
                    seatsAt[k] = numberOf(mill.fresh);
                    if (seatsAt[k] == NONE || !arrive(k)) {
                        return SPENT;
                    }
                }
            }
            remember();
            return rows;
        }

        private boolean enterFirst(Seed first) {
            found = 0;
            rows = 0;
            at.places = first.places;
            at.held = first.held;
            System.arraycopy(first.table, 0, at.table, 0, CELLS);
            for (int i = 0; i < first.places; i++) {
                seatsAt[i] = numberOf(first.letters[i]);
                if (seatsAt[i] == NONE) {
                    return false;
                }
            }
            gatherLetters();
            return enter();
        }

        private void load(int r) {
            System.arraycopy(tablesOf, r * CELLS, at.table, 0, CELLS);
            for (int i = 0; i < at.places; i++) {
                seatsAt[i] = seats[r * MOST_PLACES + i];
                at.letters[i] = letters[seatsAt[i]];
            }
        }

        /** The number of a letter, a new one if it was in no seed ahead; NONE if there would be too many. */
        private int numberOf(Share letter) {
            for (int i = 0; i < found; i++) {
                if (letters[i].isLike(letter)) {
                    return i;
                }
            }
            if (found >= MOST_LETTERS) {
                return NONE;
            }
            letters[found].copyFrom(letter);
            found++;
            return found - 1;
        }

        /** Looks for the seed, which a turn at k has brought, in the row, and enters it if it is new. */
        private boolean arrive(int k) {
            gatherLetters();
            int r = rowOf();
            if (r == NONE) {
                r = rows;
                if (!enter()) {
                    return false;
                }
            }
            // Turned where the new letter stands it leads back to a seed of the row, and by the same sum N.
            explored[r * MOST_PLACES + to[k]] = true;
            return true;
        }

        private void gatherLetters() {
            lowAt = 0;
            highAt = 0;
            for (int i = 0; i < at.places; i++) {
                if (seatsAt[i] < 64) {
                    lowAt |= 1L << seatsAt[i];
                } else {
                    highAt |= 1L << (seatsAt[i] - 64);
                }
            }
        }

        /** Which of the row is the same (where its letters stand there is known then); NONE if there is none. */
        private int rowOf() {
            for (int r = 0; r < rows; r++) {
                if (lowLetters[r] == lowAt && highLetters[r] == highAt) {
                    seatsMap(r);
                    if (at.hasTable(tablesOf, r * CELLS, to)) {
                        return r;
                    }
                }
            }
            return NONE;
        }

        /** Where the letters of the seed stand in one of the row that has the same ones. */
        private void seatsMap(int r) {
            for (int i = 0; i < at.places; i++) {
                for (int j = 0; j < at.places; j++) {
                    if (seats[r * MOST_PLACES + j] == seatsAt[i]) {
                        to[i] = j;
                    }
                }
            }
        }

        private boolean enter() {
            if (rows >= MOST_SEEDS) {
                return false;
            }
            for (int i = 0; i < at.places; i++) {
                to[i] = i;
                seats[rows * MOST_PLACES + i] = seatsAt[i];
                explored[rows * MOST_PLACES + i] = false;
            }
            System.arraycopy(at.table, 0, tablesOf, rows * CELLS, CELLS);
            lowLetters[rows] = lowAt;
            highLetters[rows] = highAt;
            rows++;
            return true;
        }

        private void remember() {
            toldLetters = found;
            toldWidth = at.places + at.held;
            for (int i = 0; i < found; i++) {
                toldTerms[i] = letters[i].length;
                toldSums[i] = letters[i].sum();
                for (int v = 0; v < toldWidth; v++) {
                    toldLeast[i * MOST_ROWS + v] = letters[i].leastPower(v);
                }
            }
        }

        long tell(int i, int what) {
            if (what == 0) {
                return toldLetters;
            }
            if (i < 0 || i >= toldLetters) {
                return NONE;
            }
            if (what == 1) {
                return toldTerms[i];
            }
            if (what == 2) {
                return toldSums[i];
            }
            return what >= 10 && what < 10 + toldWidth ? toldLeast[i * MOST_ROWS + what - 10] : NONE;
        }
    }

    /** A row of entries, each a pair of longs, that are found again fast; with two notes on each. */
    private static final class Book {
        final long[] firsts = new long[MOST_TABLES];
        final long[] seconds = new long[MOST_TABLES];
        final int[] from = new int[MOST_TABLES];
        final int[] note = new int[MOST_TABLES];
        private final int[] slots = new int[SLOTS];
        int entries;

        void clear() {
            entries = 0;
            Arrays.fill(slots, 0);
        }

        /** Which entry it is; NONE if it is none. */
        int find(long first, long second) {
            return slots[slotOf(first, second)] - 1;
        }

        /** Enters what is not there yet; false if the book is full. */
        boolean enter(long first, long second, int came, int said) {
            if (entries >= MOST_TABLES) {
                return false;
            }
            firsts[entries] = first;
            seconds[entries] = second;
            from[entries] = came;
            note[entries] = said;
            entries++;
            slots[slotOf(first, second)] = entries;
            return true;
        }

        /** Where the entry stands or would; slots are more than entries, so one of the tries succeeds. */
        private int slotOf(long first, long second) {
            long mixed = first * 0x9E3779B97F4A7C15L + second * 0xC2B2AE3D27D4EB4FL;
            int slot = (int) ((mixed ^ mixed >>> 29) >>> 17) & SLOTS - 1;
            for (int tries = 0; tries < SLOTS; tries++) {
                int entry = slots[slot] - 1;
                if (entry < 0 || firsts[entry] == first && seconds[entry] == second) {
                    break;
                }
                slot = slot + 1 & SLOTS - 1;
            }
            return slot;
        }
    }

    /** Finds out whether tables are finite, and the turns by which they are not. */
    private static final class Kinds {
        int steps;
        int seen;
        final int[] path = new int[MOST_TABLES];
        private final int[] now = new int[CELLS];
        private long first;
        private long second;

        int judge(int[] table, int places, Book book) {
            System.arraycopy(table, 0, now, 0, CELLS);
            steps = 0;
            seen = 1;
            if (isWild(places)) {
                return 0;
            }
            book.clear();
            pack(places);
            book.enter(first, second, NONE, NONE);
            for (int at = 0; at < book.entries && at < MOST_TABLES; at++) {
                for (int k = 0; k < places; k++) {
                    unpack(book, at, places);
                    turnTable(now, places, places, k);
                    if (isWild(places)) {
                        seen = book.entries + 1;
                        tracePath(book, at, k);
                        return 0;
                    }
                    pack(places);
                    if (book.find(first, second) == NONE && !book.enter(first, second, at, k)) {
                        seen = book.entries;
                        return SPENT;
                    }
                }
            }
            seen = book.entries;
            return 1;
        }

        private boolean isWild(int places) {
            for (int i = 0; i < places; i++) {
                for (int j = 0; j < i; j++) {
                    if (now[i * MOST_PLACES + j] * now[j * MOST_PLACES + i] < -3) {
                        return true;
                    }
                }
            }
            return false;
        }

        /** Numbers of a table that is not wild are -3 .. 3: three bits hold one, a long three rows. */
        private void pack(int places) {
            first = 0;
            second = 0;
            for (int i = 0; i < places; i++) {
                for (int j = 0; j < places; j++) {
                    int three = now[i * MOST_PLACES + j] + 3;
                    if (i < 3) {
                        first = first << 3 | three;
                    } else {
                        second = second << 3 | three;
                    }
                }
            }
        }

        private void unpack(Book book, int at, int places) {
            long low = book.firsts[at];
            long high = book.seconds[at];
            for (int i = places - 1; i >= 0; i--) {
                for (int j = places - 1; j >= 0; j--) {
                    if (i < 3) {
                        now[i * MOST_PLACES + j] = (int) (low & 7) - 3;
                        low >>>= 3;
                    } else {
                        now[i * MOST_PLACES + j] = (int) (high & 7) - 3;
                        high >>>= 3;
                    }
                }
            }
        }

        private void tracePath(Book book, int last, int k) {
            steps = 1;
            for (int at = last; book.from[at] != NONE && steps < MOST_TABLES; at = book.from[at]) {
                steps++;
            }
            path[steps - 1] = k;
            int at = last;
            for (int i = steps - 2; i >= 0; i--) {
                path[i] = book.note[at];
                at = book.from[at];
            }
        }
    }

    /** A ring; its fences are bits of a long, in their order. */
    private static final class Ring {
        int corners = LEAST_CORNERS;
        long fences;

        static long bit(int a, int b) {
            int lesser = a < b ? a : b;
            int greater = a < b ? b : a;
            return 1L << lesser * (2 * MOST_CORNERS - 1 - lesser) / 2 + greater - lesser - 1;
        }

        boolean isCorner(int a) {
            return a >= 0 && a < corners;
        }

        boolean areNeighbours(int a, int b) {
            int apart = Math.abs(a - b);
            return apart == 1 || apart == corners - 1;
        }

        boolean has(int a, int b) {
            return a != b && (fences & bit(a, b)) != 0;
        }

        private boolean areLinked(int a, int b) {
            return areNeighbours(a, b) || has(a, b);
        }

        boolean isCrossed(int lesser, int greater) {
            for (int c = lesser + 1; c < greater; c++) {
                for (int d = 0; d < corners; d++) {
                    if ((d < lesser || d > greater) && has(c, d)) {
                        return true;
                    }
                }
            }
            return false;
        }

        int fenceCount() {
            return Long.bitCount(fences);
        }

        boolean isCut() {
            return fenceCount() == corners - 3;
        }

        private int thirds(int corner) {
            int all = 1;
            for (int d = 0; d < corners; d++) {
                if (has(corner, d)) {
                    all++;
                }
            }
            return all;
        }

        int tell(int what) {
            if (what == 0) {
                return corners;
            }
            if (what == 1) {
                return fenceCount();
            }
            if (what == 2) {
                return isCut() ? 1 : 0;
            }
            if (what >= 10 && what < 10 + corners) {
                return thirds(what - 10);
            }
            return what >= 100 && what < 100 + corners ? fenceAt(what - 100) : NONE;
        }

        /** The i-th fence in their order, as 100 times its lesser corner and the greater one. */
        int fenceAt(int i) {
            int ahead = 0;
            for (int a = 0; a < corners; a++) {
                for (int b = a + 1; b < corners; b++) {
                    if (has(a, b)) {
                        if (ahead == i) {
                            return 100 * a + b;
                        }
                        ahead++;
                    }
                }
            }
            return NONE;
        }

        /** The fence by which the piece around one of a cutting is cut instead, as fenceAt(). */
        int otherFence(int lesser, int greater) {
            int inside = NONE;
            int outside = NONE;
            for (int c = 0; c < corners; c++) {
                if (c != lesser && c != greater && areLinked(c, lesser) && areLinked(c, greater)) {
                    if (c > lesser && c < greater) {
                        inside = c;
                    } else {
                        outside = c;
                    }
                }
            }
            if (inside == NONE || outside == NONE) {
                return NONE;
            }
            return 100 * Math.min(inside, outside) + Math.max(inside, outside);
        }

        long friezeNumber(int i, int j) {
            if (corners == 0) {
                return 0;
            }
            long before = 0;
            long now = 1;
            for (int at = i; at < j; at++) {
                long next = thirds((at + 1) % corners) * now - before;
                before = now;
                now = next;
            }
            return before;
        }

        /** Tells a table, all 0, the arrows between the fences of a cutting. */
        void tellArrows(int[] table) {
            for (int a = 0; a < corners; a++) {
                for (int b = a + 1; b < corners; b++) {
                    for (int c = b + 1; c < corners; c++) {
                        if (areLinked(a, b) && areLinked(b, c) && areLinked(a, c)) {
                            tellArrow(table, placeOf(a, b), placeOf(b, c));
                            tellArrow(table, placeOf(b, c), placeOf(a, c));
                            tellArrow(table, placeOf(a, c), placeOf(a, b));
                        }
                    }
                }
            }
        }

        private int placeOf(int a, int b) {
            return has(a, b) ? Long.bitCount(fences & bit(a, b) - 1) : NONE;
        }

        private static void tellArrow(int[] table, int start, int end) {
            if (start >= 0 && end >= 0 && start < MOST_PLACES && end < MOST_PLACES) {
                table[start * MOST_PLACES + end]++;
                table[end * MOST_PLACES + start]--;
            }
        }
    }

    /** Finds ways from cutting to cutting. */
    private static final class Guide {
        int flips;
        final int[] gone = new int[MOST_FLIPS];
        private final Ring ring = new Ring();

        /** Enters cuttings with the number of flips between them and the end, from it on, till the start is met. */
        void measure(Ring start, Ring end, Book book) {
            ring.corners = end.corners;
            book.clear();
            book.enter(end.fences, 0, NONE, 0);
            for (int at = 0; at < book.entries && at < MOST_TABLES; at++) {
                if (book.find(start.fences, 0) != NONE) {
                    return;
                }
                ring.fences = book.firsts[at];
                for (int i = 0; i < ring.corners - 3; i++) {
                    long next = flipped(ring.fenceAt(i));
                    if (book.find(next, 0) == NONE) {
                        book.enter(next, 0, at, book.note[at] + 1);
                    }
                }
            }
        }

        /** The way to the end that was measured: how many flips. */
        int lead(Ring start, Book book) {
            int entry = book.find(start.fences, 0);
            int least = entry < 0 ? 0 : Math.min(book.note[entry], MOST_FLIPS);
            ring.fences = start.fences;
            for (int i = 0; i < least; i++) {
                gone[i] = goNearer(least - i - 1, book);
            }
            flips = least;
            return least;
        }

        private long flipped(int fence) {
            if (fence < 0) {
                return ring.fences;
            }
            int other = ring.otherFence(fence / 100, fence % 100);
            if (other < 0) {
                return ring.fences;
            }
            return ring.fences ^ Ring.bit(fence / 100, fence % 100) ^ Ring.bit(other / 100, other % 100);
        }

        /** Flips the first fence that leaves so many flips to go: which one it was. */
        private int goNearer(int left, Book book) {
            for (int i = 0; i < ring.corners - 3; i++) {
                int fence = ring.fenceAt(i);
                long next = flipped(fence);
                int entry = book.find(next, 0);
                if (entry >= 0 && book.note[entry] == left) {
                    ring.fences = next;
                    return fence;
                }
            }
            return NONE;
        }
    }
}
