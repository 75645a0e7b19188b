import java.math.BigInteger;
import java.util.ArrayDeque;
import java.util.ArrayList;
import java.util.Arrays;
import java.util.Collections;
import java.util.Comparator;
import java.util.HashMap;
import java.util.LinkedHashMap;
import java.util.LinkedHashSet;
import java.util.List;
import java.util.Map;
import java.util.TreeMap;
import java.util.TreeSet;

/**
 * The document done in the most direct way, with the Java library and no thought of space or time: what SeedBench
 * answers is compared with this.
 */
final class Model {
    static final int NONE = -1;
    private static final BigInteger LIMIT = BigInteger.valueOf(1000000000000L);

    /** Powers in the document's order: the greater first. */
    private static final Comparator<List<Integer>> ORDER = (a, b) -> {
        for (int v = 0; v < a.size(); v++) {
            int c = Integer.compare(b.get(v), a.get(v));
            if (c != 0) {
                return c;
            }
        }
        return 0;
    };

    static final class Poly {
        final TreeMap<List<Integer>, BigInteger> terms = new TreeMap<>(ORDER);

        static Poly one(int width) {
            Poly p = new Poly();
            p.terms.put(new ArrayList<>(Collections.nCopies(width, 0)), BigInteger.ONE);
            return p;
        }

        static Poly variable(int width, int v) {
            Poly p = new Poly();
            List<Integer> powers = new ArrayList<>(Collections.nCopies(width, 0));
            powers.set(v, 1);
            p.terms.put(powers, BigInteger.ONE);
            return p;
        }

        void add(List<Integer> powers, BigInteger number) {
            BigInteger sum = terms.getOrDefault(powers, BigInteger.ZERO).add(number);
            if (sum.signum() == 0) {
                terms.remove(powers);
            } else {
                terms.put(powers, sum);
            }
        }

        Poly times(Poly other) {
            Poly p = new Poly();
            for (Map.Entry<List<Integer>, BigInteger> x : terms.entrySet()) {
                p.addTimes(other, x.getKey(), x.getValue());
            }
            return p;
        }

        void addTimes(Poly other, List<Integer> powers, BigInteger number) {
            for (Map.Entry<List<Integer>, BigInteger> y : other.terms.entrySet()) {
                List<Integer> sum = new ArrayList<>();
                for (int v = 0; v < powers.size(); v++) {
                    sum.add(powers.get(v) + y.getKey().get(v));
                }
                add(sum, number.multiply(y.getValue()));
            }
        }

        /** Exact division; it is a fault of the model if it is none. */
        Poly over(Poly divisor) {
            Poly rest = new Poly();
            rest.terms.putAll(terms);
            Poly q = new Poly();
            while (!rest.terms.isEmpty()) {
                Map.Entry<List<Integer>, BigInteger> lead = rest.terms.firstEntry();
                Map.Entry<List<Integer>, BigInteger> by = divisor.terms.firstEntry();
                List<Integer> powers = new ArrayList<>();
                for (int v = 0; v < lead.getKey().size(); v++) {
                    powers.add(lead.getKey().get(v) - by.getKey().get(v));
                }
                BigInteger[] number = lead.getValue().divideAndRemainder(by.getValue());
                if (number[1].signum() != 0 || q.terms.size() > 5000) {
                    throw new IllegalStateException("not a whole share");
                }
                q.add(powers, number[0]);
                rest.addTimes(divisor, powers, number[0].negate());
            }
            return q;
        }

        boolean tooMuch() {
            if (terms.size() > 200) {
                return true;
            }
            for (BigInteger number : terms.values()) {
                if (number.compareTo(LIMIT) > 0) {
                    return true;
                }
            }
            return false;
        }

        BigInteger sum() {
            BigInteger sum = BigInteger.ZERO;
            for (BigInteger number : terms.values()) {
                sum = sum.add(number);
            }
            return sum;
        }

        int least(int v) {
            int least = Integer.MAX_VALUE;
            for (List<Integer> powers : terms.keySet()) {
                least = Math.min(least, powers.get(v));
            }
            return least;
        }

        String text() {
            return terms.toString();
        }
    }

    static int[][] turnedTable(int[][] b, int k) {
        int[][] c = new int[b.length][];
        for (int i = 0; i < b.length; i++) {
            c[i] = b[i].clone();
            for (int j = 0; j < b[i].length; j++) {
                if (i == k || j == k) {
                    c[i][j] = -b[i][j];
                } else if (b[i][k] > 0 && b[k][j] > 0 || b[i][k] < 0 && b[k][j] < 0) {
                    c[i][j] = b[i][j] + Math.abs(b[i][k]) * b[k][j];
                }
            }
        }
        return c;
    }

    static final class State {
        final int n;
        final int m;
        final int[][] b;
        final Poly[] letters;

        State(int n, int m, int[][] b, Poly[] letters) {
            this.n = n;
            this.m = m;
            this.b = b;
            this.letters = letters;
        }

        static State first(int n, int m, int[][] told) {
            int[][] b = new int[n + m][];
            for (int i = 0; i < n + m; i++) {
                b[i] = told[i].clone();
            }
            Poly[] letters = new Poly[n];
            for (int i = 0; i < n; i++) {
                letters[i] = Poly.variable(n + m, i);
            }
            return new State(n, m, b, letters);
        }

        private Poly product(int k, int sign) {
            Poly p = Poly.one(n + m);
            for (int i = 0; i < n + m; i++) {
                Poly factor = i < n ? letters[i] : Poly.variable(n + m, i);
                for (int e = 0; e < sign * b[i][k]; e++) {
                    p = p.times(factor);
                    if (p.terms.size() > 400 || p.sum().bitLength() > 80) {
                        return null;
                    }
                }
            }
            return p.tooMuch() ? null : p;
        }

        /** Null if spent. */
        State turned(int k) {
            int[][] c = turnedTable(b, k);
            for (int[] line : c) {
                for (int x : line) {
                    if (x < -9999 || x > 9999) {
                        return null;
                    }
                }
            }
            Poly p = product(k, 1);
            Poly q = product(k, -1);
            if (p == null || q == null) {
                return null;
            }
            Poly sum = new Poly();
            sum.terms.putAll(p.terms);
            for (Map.Entry<List<Integer>, BigInteger> x : q.terms.entrySet()) {
                sum.add(x.getKey(), x.getValue());
            }
            if (sum.tooMuch()) {
                return null;
            }
            Poly[] next = letters.clone();
            next[k] = sum.over(letters[k]);
            return new State(n, m, c, next);
        }

        /** The same text for seeds that are the same, and for no others. */
        String canonical() {
            List<Integer> order = new ArrayList<>();
            for (int i = 0; i < n; i++) {
                order.add(i);
            }
            String[] texts = new String[n];
            for (int i = 0; i < n; i++) {
                texts[i] = letters[i].text();
            }
            order.sort(Comparator.comparing(i -> texts[i]));
            StringBuilder out = new StringBuilder().append(n).append('/').append(m);
            for (int i : order) {
                out.append('|').append(texts[i]);
            }
            for (int i = 0; i < n + m; i++) {
                for (int j : order) {
                    out.append(',').append(b[i < n ? order.get(i) : i][j]);
                }
            }
            return out.toString();
        }
    }

    private State seed;
    private final ArrayDeque<State> history = new ArrayDeque<>();
    private int toldN;
    private int toldM;
    private int[][] told;
    private final String[] kept = new String[4];
    private int allSeeds;
    private List<Poly> allLetters;
    private int allWidth;
    private int[] path = new int[0];
    private int tablesSeen;
    private int[] row;
    private final int[] corners = {4, 4};
    private final List<TreeSet<Integer>> fences = List.of(new TreeSet<>(), new TreeSet<>());
    private List<Integer> gone = new ArrayList<>();

    Model() {
        seed = State.first(1, 0, new int[1][1]);
    }

    boolean table(int n, int m) {
        if (n < 1 || n > 6 || m < 0 || m > 6) {
            return false;
        }
        toldN = n;
        toldM = m;
        told = new int[n + m][n];
        return true;
    }

    boolean arrows(int i, int j, int v) {
        if (told == null || i < 0 || i >= toldN + toldM || j < 0 || j >= toldN || v < -9 || v > 9) {
            return false;
        }
        told[i][j] = v;
        return true;
    }

    /** The sizes by trying each size of the first place of a group till all others come out whole; null if none do. */
    private static long[] sizes(int[][] b, int n) {
        long[] sizes = new long[n];
        for (int root = 0; root < n; root++) {
            if (sizes[root] != 0) {
                continue;
            }
            long[] found = null;
            for (long s = 1; s <= 60000 && found == null; s++) {
                found = spread(b, n, root, s);
            }
            if (found == null) {
                return null;
            }
            for (int i = 0; i < n; i++) {
                sizes[i] = Math.max(sizes[i], found[i]);
            }
        }
        return sizes;
    }

    private static long[] spread(int[][] b, int n, int root, long size) {
        long[] sizes = new long[n];
        sizes[root] = size;
        boolean more = true;
        while (more) {
            more = false;
            for (int i = 0; i < n; i++) {
                for (int j = 0; j < n; j++) {
                    if (sizes[i] == 0 || b[i][j] == 0) {
                        continue;
                    }
                    long x = -sizes[i] * b[i][j];
                    if (x % b[j][i] != 0) {
                        return null;
                    }
                    if (sizes[j] == 0) {
                        sizes[j] = x / b[j][i];
                        more = true;
                    } else if (sizes[j] != x / b[j][i]) {
                        return null;
                    }
                }
            }
        }
        return sizes;
    }

    int begin() {
        if (told == null) {
            return NONE;
        }
        int fault = 4;
        for (int i = 0; i < toldN; i++) {
            if (told[i][i] != 0) {
                fault = 1;
            }
            for (int j = 0; j < toldN; j++) {
                int x = told[i][j];
                int y = told[j][i];
                boolean fine = i == j || x == 0 && y == 0 || x > 0 && y < 0 || x < 0 && y > 0;
                if (!fine) {
                    fault = Math.min(fault, 2);
                }
            }
        }
        if (fault == 4 && sizes(told, toldN) == null) {
            fault = 3;
        }
        if (fault != 4) {
            return fault;
        }
        seed = State.first(toldN, toldM, told);
        history.clear();
        return 0;
    }

    private boolean isPlace(int i) {
        return i >= 0 && i < seed.n;
    }

    int size(int i) {
        return isPlace(i) ? (int) sizes(seed.b, seed.n)[i] : 0;
    }

    int turn(int k) {
        if (!isPlace(k)) {
            return NONE;
        }
        State next = seed.turned(k);
        if (next == null) {
            return -2;
        }
        if (history.size() == 100) {
            return -3;
        }
        history.push(seed);
        seed = next;
        return seed.letters[k].terms.size();
    }

    boolean back() {
        if (history.isEmpty()) {
            return false;
        }
        seed = history.pop();
        return true;
    }

    int b(int i, int j) {
        return i >= 0 && i < seed.n + seed.m && isPlace(j) ? seed.b[i][j] : 0;
    }

    int terms(int i) {
        return isPlace(i) ? seed.letters[i].terms.size() : 0;
    }

    long term(int i, int t, int v) {
        if (!isPlace(i) || t < 0 || t >= terms(i) || v < -1 || v >= seed.n + seed.m) {
            return 0;
        }
        Map.Entry<List<Integer>, BigInteger> term =
                new ArrayList<>(seed.letters[i].terms.entrySet()).get(t);
        return v == NONE ? term.getValue().longValueExact() : term.getKey().get(v);
    }

    int least(int i, int v) {
        return isPlace(i) && v >= 0 && v < seed.n + seed.m ? seed.letters[i].least(v) : 0;
    }

    long ones(int i) {
        return isPlace(i) ? seed.letters[i].sum().longValueExact() : 0;
    }

    boolean keep(int k) {
        if (k < 0 || k > 3) {
            return false;
        }
        kept[k] = seed.canonical();
        return true;
    }

    int same(int k) {
        if (k < 0 || k > 3 || kept[k] == null) {
            return NONE;
        }
        return kept[k].equals(seed.canonical()) ? 1 : 0;
    }

    int all() {
        allSeeds = 0;
        List<State> line = new ArrayList<>();
        LinkedHashSet<String> known = new LinkedHashSet<>();
        LinkedHashMap<String, Poly> letters = new LinkedHashMap<>();
        line.add(seed);
        known.add(seed.canonical());
        for (Poly letter : seed.letters) {
            letters.putIfAbsent(letter.text(), letter);
        }
        for (int at = 0; at < line.size(); at++) {
            for (int k = 0; k < seed.n; k++) {
                State next = line.get(at).turned(k);
                if (next == null) {
                    return -2;
                }
                if (known.add(next.canonical())) {
                    line.add(next);
                    for (Poly letter : next.letters) {
                        letters.putIfAbsent(letter.text(), letter);
                    }
                }
                if (line.size() > 150 || letters.size() > 100) {
                    return -2;
                }
            }
        }
        allSeeds = line.size();
        allLetters = new ArrayList<>(letters.values());
        allWidth = seed.n + seed.m;
        return allSeeds;
    }

    long what(int i, int what) {
        if (allLetters == null) {
            return NONE;
        }
        if (what == 0) {
            return allLetters.size();
        }
        if (i < 0 || i >= allLetters.size()) {
            return NONE;
        }
        Poly letter = allLetters.get(i);
        if (what == 1) {
            return letter.terms.size();
        }
        if (what == 2) {
            return letter.sum().longValueExact();
        }
        return what >= 10 && what < 10 + allWidth ? letter.least(what - 10) : NONE;
    }

    private static boolean wild(int[][] b) {
        for (int i = 0; i < b.length; i++) {
            for (int j = 0; j < b.length; j++) {
                if (b[i][j] * b[j][i] < -3) {
                    return true;
                }
            }
        }
        return false;
    }

    int finite() {
        int[][] first = Arrays.copyOf(seed.b, seed.n);
        path = new int[0];
        tablesSeen = 1;
        if (wild(first)) {
            return 0;
        }
        Map<String, int[]> known = new HashMap<>();
        List<int[][]> line = new ArrayList<>();
        line.add(first);
        known.put(Arrays.deepToString(first), new int[0]);
        for (int at = 0; at < line.size(); at++) {
            int[] led = known.get(Arrays.deepToString(line.get(at)));
            for (int k = 0; k < seed.n; k++) {
                int[][] next = turnedTable(line.get(at), k);
                if (known.containsKey(Arrays.deepToString(next))) {
                    continue;
                }
                int[] leads = Arrays.copyOf(led, led.length + 1);
                leads[led.length] = k;
                tablesSeen = line.size() + 1;
                if (wild(next)) {
                    path = leads;
                    return 0;
                }
                if (tablesSeen == 3001) {
                    tablesSeen = 3000;
                    return -2;
                }
                line.add(next);
                known.put(Arrays.deepToString(next), leads);
            }
        }
        return 1;
    }

    int step(int i) {
        return i >= 0 && i < path.length ? path[i] : NONE;
    }

    int tables() {
        return tablesSeen;
    }

    boolean row(int n, int i, int k) {
        if (n < 1 || n > 12 || i < 0 || i >= n || k < 0 || k > 5) {
            return false;
        }
        if (row == null || row.length != n) {
            row = new int[n];
        }
        row[i] = k;
        return true;
    }

    int order() {
        if (row == null) {
            return NONE;
        }
        for (int k : row) {
            if (k >= seed.n) {
                return NONE;
            }
        }
        String first = seed.canonical();
        State now = seed;
        for (int times = 1; times <= 40; times++) {
            for (int k : row) {
                now = now.turned(k);
                if (now == null) {
                    return -2;
                }
            }
            if (now.canonical().equals(first)) {
                return times;
            }
        }
        return -2;
    }

    private static boolean neighbours(int n, int a, int b) {
        return (a + 1) % n == b || (b + 1) % n == a;
    }

    private static int code(int a, int b) {
        return 100 * Math.min(a, b) + Math.max(a, b);
    }

    private static boolean cross(int one, int two) {
        int a = one / 100;
        int b = one % 100;
        int c = two / 100;
        int d = two % 100;
        return a < c && c < b && b < d || c < a && a < d && d < b;
    }

    private static boolean linked(int n, TreeSet<Integer> f, int a, int b) {
        return neighbours(n, a, b) || f.contains(code(a, b));
    }

    private boolean cutting(int s) {
        return s >= 0 && s <= 1 && fences.get(s).size() == corners[s] - 3;
    }

    boolean ring(int s, int n) {
        if (s < 0 || s > 1 || n < 4 || n > 10) {
            return false;
        }
        corners[s] = n;
        fences.get(s).clear();
        return true;
    }

    int fence(int s, int a, int b) {
        if (s < 0 || s > 1 || a < 0 || b < 0 || a >= corners[s] || b >= corners[s] || a == b) {
            return NONE;
        }
        if (linked(corners[s], fences.get(s), a, b)) {
            return NONE;
        }
        for (int other : fences.get(s)) {
            if (cross(other, code(a, b))) {
                return NONE;
            }
        }
        fences.get(s).add(code(a, b));
        return fences.get(s).size();
    }

    /** The only other fence that crosses none of those that stay. */
    private static int instead(int n, TreeSet<Integer> f, int gone) {
        for (int a = 0; a < n; a++) {
            for (int b = a + 2; b < n; b++) {
                int code = code(a, b);
                boolean fits = !neighbours(n, a, b) && code != gone && !f.contains(code);
                for (int other : f) {
                    fits = fits && (other == gone || !cross(other, code));
                }
                if (fits) {
                    return code;
                }
            }
        }
        throw new IllegalStateException("no flip");
    }

    int flip(int s, int a, int b) {
        if (!cutting(s) || a < 0 || b < 0 || a > 9 || b > 9 || !fences.get(s).contains(code(a, b))) {
            return NONE;
        }
        int other = instead(corners[s], fences.get(s), code(a, b));
        fences.get(s).remove(code(a, b));
        fences.get(s).add(other);
        return other;
    }

    private int thirds(int s, int c) {
        int all = 1;
        for (int f : fences.get(s)) {
            if (f / 100 == c || f % 100 == c) {
                all++;
            }
        }
        return all;
    }

    int ringOf(int s, int what) {
        if (s < 0 || s > 1) {
            return NONE;
        }
        if (what == 0) {
            return corners[s];
        }
        if (what == 1) {
            return fences.get(s).size();
        }
        if (what == 2) {
            return cutting(s) ? 1 : 0;
        }
        if (what >= 10 && what - 10 < corners[s]) {
            return thirds(s, what - 10);
        }
        if (what >= 100 && what - 100 < fences.get(s).size()) {
            return new ArrayList<>(fences.get(s)).get(what - 100);
        }
        return NONE;
    }

    long frieze(int s, int i, int j) {
        if (!cutting(s) || i < 0 || i >= corners[s] || j < i || j > i + corners[s]) {
            return 0;
        }
        if (j - i < 2) {
            return j - i;
        }
        return thirds(s, (j - 1) % corners[s]) * frieze(s, i, j - 1) - frieze(s, i, j - 2);
    }

    int way() {
        if (!cutting(0) || !cutting(1) || corners[0] != corners[1]) {
            return NONE;
        }
        // From the start on, fences in their order: the first way to come to a cutting is the one asked for.
        Map<TreeSet<Integer>, List<Integer>> ways = new HashMap<>();
        ArrayDeque<TreeSet<Integer>> line = new ArrayDeque<>();
        TreeSet<Integer> start = new TreeSet<>(fences.get(0));
        ways.put(start, new ArrayList<>());
        line.add(start);
        while (!ways.containsKey(fences.get(1))) {
            TreeSet<Integer> now = line.remove();
            for (int gone : now) {
                TreeSet<Integer> next = new TreeSet<>(now);
                next.remove(gone);
                next.add(instead(corners[0], now, gone));
                if (!ways.containsKey(next)) {
                    List<Integer> led = new ArrayList<>(ways.get(now));
                    led.add(gone);
                    ways.put(next, led);
                    line.add(next);
                }
            }
        }
        gone = ways.get(fences.get(1));
        return gone.size();
    }

    int goes(int i) {
        return i >= 0 && i < gone.size() ? gone.get(i) : NONE;
    }

    boolean seed(int s) {
        if (!cutting(s) || corners[s] == 10) {
            return false;
        }
        int n = corners[s];
        List<Integer> places = new ArrayList<>(fences.get(s));
        table(n - 3, 0);
        for (int a = 0; a < n; a++) {
            for (int b = a + 1; b < n; b++) {
                for (int c = b + 1; c < n; c++) {
                    if (linked(n, fences.get(s), a, b) && linked(n, fences.get(s), b, c)
                            && linked(n, fences.get(s), a, c)) {
                        int[] sides = {places.indexOf(code(a, b)), places.indexOf(code(b, c)),
                            places.indexOf(code(a, c))};
                        for (int x = 0; x < 3; x++) {
                            int from = sides[x];
                            int to = sides[(x + 1) % 3];
                            if (from >= 0 && to >= 0) {
                                told[from][to]++;
                                told[to][from]--;
                            }
                        }
                    }
                }
            }
        }
        return begin() == 0;
    }

    int count(int what) {
        if (what == 0) {
            return seed.n;
        }
        if (what == 1) {
            return seed.m;
        }
        if (what == 2) {
            return history.size();
        }
        if (what == 3) {
            int all = 0;
            for (Poly letter : seed.letters) {
                all += letter.terms.size();
            }
            return all;
        }
        return what == 4 ? allSeeds : NONE;
    }
}
