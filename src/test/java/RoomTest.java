import com.sun.management.ThreadMXBean;
import java.lang.management.ManagementFactory;
import java.lang.reflect.Array;
import java.lang.reflect.Field;
import java.lang.reflect.Modifier;
import java.util.ArrayDeque;
import java.util.Arrays;
import java.util.Collections;
import java.util.Deque;
import java.util.IdentityHashMap;
import java.util.Random;
import java.util.Set;

/**
 * The room of a run: what the constructor makes, and what the dearest call makes, times all calls.
 *
 * <p>Each call is measured alone, in bytes. An object or array has eight bytes and more, a field or element one and
 * more, so bytes bound both counts from above.
 */
public final class RoomTest {
    private static final long MOST_OBJECTS = 600_000;
    private static final long MOST_ELEMENTS = 7_300_000;
    private static final int CALLS = 512;
    private static final int LEAST_BYTES_OF_AN_OBJECT = 8;
    private static final int MOST_OBJECTS_OF_NEW = 1_000;
    private static final int MOST_ELEMENTS_OF_NEW = 500_000;

    private static final String[] METHODS = {"table", "arrows", "begin", "size", "turn", "back", "b", "terms", "term",
        "least", "ones", "keep", "same", "all", "what", "finite", "step", "tables", "row", "order", "ring", "fence",
        "flip", "ringOf", "frieze", "way", "goes", "seed", "count"};
    private static final String[] STATES = {"new", "chain of five, six held", "chain of six", "double arrow at the end",
        "the greatest arrows", "two hundred terms", "a row of twelve", "cuttings of ten", "cuttings of nine"};

    private final Check check = new Check();
    private final ThreadMXBean threads = (ThreadMXBean) ManagementFactory.getThreadMXBean();
    private final long thread = Thread.currentThread().getId();
    private final long[] dearest = new long[METHODS.length];
    private long bytesOfNew;
    private long overhead;
    private long sum;

    public static void main(String[] args) {
        RoomTest test = new RoomTest();
        test.statesAreDear();
        // The first time round the machine loads classes, which the bench does not make: only the second one counts.
        for (int round = 0; round < 2; round++) {
            Arrays.fill(test.dearest, 0);
            test.measureNew();
            test.allCalls();
        }
        test.roomOfNew();
        test.check.due("the answers were asked for", test.sum != Long.MIN_VALUE, true);
        test.roomOfEachMethod();
        test.check.end();
    }

    // ---- what the constructor makes

    private void measureNew() {
        long start = made();
        overhead = made() - start;
        long before = made();
        SeedBench bench = new SeedBench();
        bytesOfNew = made() - before - overhead;
        sum += bench.count(0);
    }

    private void roomOfNew() {
        long[] counts = heldBy(new SeedBench());
        System.out.println("a new object: " + counts[0] + " objects and arrays, " + counts[1]
                + " fields and elements, " + bytesOfNew + " bytes");
        check.due("a new object holds rows", counts[0] > 10 && counts[1] > 1000, true);
        check.due("objects of a new object " + counts[0], counts[0] <= MOST_OBJECTS_OF_NEW, true);
        check.due("elements of a new object " + counts[1], counts[1] <= MOST_ELEMENTS_OF_NEW, true);
    }

    private long made() {
        return threads.getThreadAllocatedBytes(thread);
    }

    /** How many objects and arrays, and how many fields and elements, can be reached from one. */
    private static long[] heldBy(Object root) {
        long[] counts = new long[2];
        Set<Object> seen = Collections.newSetFromMap(new IdentityHashMap<>());
        Deque<Object> open = new ArrayDeque<>();
        seen.add(root);
        open.add(root);
        while (!open.isEmpty()) {
            Object one = open.remove();
            counts[0]++;
            if (one.getClass().isArray()) {
                counts[1] += Array.getLength(one);
                for (int i = 0; one instanceof Object[] row && i < row.length; i++) {
                    reach(row[i], seen, open);
                }
            } else {
                counts[1] += reachFields(one, seen, open);
            }
        }
        return counts;
    }

    private static int reachFields(Object one, Set<Object> seen, Deque<Object> open) {
        int fields = 0;
        for (Field field : one.getClass().getDeclaredFields()) {
            if (Modifier.isStatic(field.getModifiers())) {
                continue;
            }
            fields++;
            if (!field.getType().isPrimitive()) {
                reach(valueOf(field, one), seen, open);
            }
        }
        return fields;
    }

    private static Object valueOf(Field field, Object one) {
        try {
            field.setAccessible(true);
            return field.get(one);
        } catch (IllegalAccessException e) {
            throw new IllegalStateException(e);
        }
    }

    private static void reach(Object one, Set<Object> seen, Deque<Object> open) {
        if (one != null && seen.add(one)) {
            open.add(one);
        }
    }

    // ---- what calls make

    private void allCalls() {
        for (int method = 0; method < METHODS.length; method++) {
            for (int state = 0; state < STATES.length; state++) {
                firstCalls(method, state);
                laterCalls(method, state);
            }
        }
        randomCalls();
    }

    /** The first call of a method on an object, with ordinary arguments and with wrong ones. */
    private void firstCalls(int method, int state) {
        for (int likely = 0; likely < 2; likely++) {
            SeedBench bench = inState(state);
            int wrong = likely == 0 ? 0 : -7;
            measure(bench, method, 1 + wrong, wrong, 1 + wrong);
        }
    }

    private void laterCalls(int method, int state) {
        SeedBench bench = inState(state);
        for (int c = 0; c < 12; c++) {
            measure(bench, method, c % 7, c % 6, c % 5);
        }
    }

    /** Calls of all kinds upon one another: what one leaves behind must not make another dear. */
    private void randomCalls() {
        Random random = new Random(20261116L);
        for (int run = 0; run < 60; run++) {
            SeedBench bench = inState(run % STATES.length);
            for (int c = 0; c < 150; c++) {
                measure(bench, random.nextInt(METHODS.length), random.nextInt(9) - 1, random.nextInt(10) - 1,
                        random.nextInt(10) - 1);
            }
        }
    }

    private void measure(SeedBench bench, int method, int a, int b, int c) {
        long before = made();
        long answer = call(bench, method, a, b, c);
        long bytes = made() - before - overhead;
        sum += answer;
        dearest[method] = Math.max(dearest[method], bytes);
    }

    private void roomOfEachMethod() {
        for (int method = 0; method < METHODS.length; method++) {
            long bytes = bytesOfNew + CALLS * dearest[method];
            String told = METHODS[method] + "(), its dearest call of " + dearest[method] + " bytes, times all calls";
            check.due(told + ": elements", bytes <= MOST_ELEMENTS, true);
            check.due(told + ": objects", bytes / LEAST_BYTES_OF_AN_OBJECT <= MOST_OBJECTS, true);
            check.due(METHODS[method] + "() makes bytes", dearest[method], 0);
        }
    }

    private static long call(SeedBench x, int method, int a, int b, int c) {
        switch (METHODS[method]) {
            case "table": return x.table(a, b) ? 1 : 0;
            case "arrows": return x.arrows(a, b, c) ? 1 : 0;
            case "begin": return x.begin();
            case "size": return x.size(a);
            case "turn": return x.turn(a);
            case "back": return x.back() ? 1 : 0;
            case "b": return x.b(a, b);
            case "terms": return x.terms(a);
            case "term": return x.term(a, b, c);
            case "least": return x.least(a, b);
            case "ones": return x.ones(a);
            case "keep": return x.keep(a) ? 1 : 0;
            case "same": return x.same(a);
            case "all": return x.all();
            case "what": return x.what(a, b == 5 ? 12 : b);
            case "finite": return x.finite();
            case "step": return x.step(a);
            case "tables": return x.tables();
            case "row": return x.row(a + 6, b, c) ? 1 : 0;
            case "order": return x.order();
            case "ring": return x.ring(a % 2, b + 4) ? 1 : 0;
            case "fence": return x.fence(a % 2, b, c + 3);
            case "flip": return x.flip(a % 2, 0, b + 2);
            case "ringOf": return x.ringOf(a % 2, b < 3 ? b : c + (b < 5 ? 10 : 100));
            case "frieze": return x.frieze(a % 2, b, b + c);
            case "way": return x.way();
            case "goes": return x.goes(a);
            case "seed": return x.seed(a % 2) ? 1 : 0;
            default: return x.count(a);
        }
    }

    // ---- objects on which calls are dear

    private static SeedBench inState(int state) {
        SeedBench bench = new SeedBench();
        switch (state) {
            case 1:
                chain(bench, 5, 6, 1, 1);
                bench.keep(1);
                break;
            case 2:
                chain(bench, 6, 0, 1, 1);
                break;
            case 3:
                chain(bench, 6, 6, 1, 2);
                break;
            case 4:
                chain(bench, 6, 6, 9, 9);
                break;
            case 5:
                manyTerms(bench);
                break;
            case 6:
                chain(bench, 5, 6, 1, 1);
                for (int i = 0; i < 12; i++) {
                    bench.row(12, i, i % 5);
                }
                break;
            case 7:
                cuttings(bench, 10);
                break;
            case 8:
                cuttings(bench, 9);
                break;
            default:
                break;
        }
        return bench;
    }

    private static void chain(SeedBench x, int n, int m, int each, int last) {
        x.table(n, m);
        for (int i = 1; i < n; i++) {
            int v = i == n - 1 ? last : each;
            x.arrows(i - 1, i, v);
            x.arrows(i, i - 1, -v);
        }
        for (int h = 0; h < m; h++) {
            x.arrows(n + h, h % n, 1);
        }
        x.begin();
    }

    /** A letter of the most terms that there can be: place 0 is turned to the sum of two products of 100 terms each. */
    private static void manyTerms(SeedBench x) {
        x.table(6, 6);
        for (int i = 1; i <= 4; i++) {
            int sign = i <= 2 ? 1 : -1;
            x.arrows(i, 0, 9 * sign);
            x.arrows(0, i, -sign);
            x.arrows(5 + i, i, -sign);
        }
        x.begin();
        for (int k = 1; k <= 5; k++) {
            x.turn(k % 5);
        }
        x.keep(1);
    }

    private static void cuttings(SeedBench x, int corners) {
        x.ring(0, corners);
        x.ring(1, corners);
        for (int i = 2; i < corners - 1; i++) {
            x.fence(0, 0, i);
            x.fence(1, 4, (4 + i) % corners);
        }
    }

    /** The measure is worth something only if the states are as dear as they say. */
    private void statesAreDear() {
        check.due("a chain of five has seeds", inState(1).all(), 132);
        check.due("a chain of six has too many", inState(2).all(), -2);
        check.due("tables of a chain of six", inState(2).finite() != 0, true);
        check.due("a letter of two hundred terms", inState(5).terms(0), 200);
        check.due("an order", inState(6).order() != -1, true);
        check.due("a way", inState(7).way() > 0, true);
        check.due("a seed of a cutting", inState(8).seed(0), true);
    }
}
