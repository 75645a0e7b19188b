/** What tests of the promises share: objects that are told tables, rows and cuttings, and ints beyond bounds. */
abstract class Bench {
    static final int MIN = Integer.MIN_VALUE;
    static final int MAX = Integer.MAX_VALUE;
    static final int NONE = SeedBench.NONE;
    static final int SPENT = -2;

    final Check check = new Check();

    void due(String call, long got, long want) {
        check.due(call, got, want);
    }

    void due(String call, boolean got, boolean want) {
        check.due(call, got, want);
    }

    static long one(boolean answer) {
        return answer ? 1 : 0;
    }

    /**
     * Ints that are not from .. to: the next ones on either side, the least and the greatest, and some that
     * come back into the bounds when they are shifted, cast to a short or multiplied.
     */
    static int[] outside(int from, int to) {
        return new int[] {from - 1, to + 1, from - 2, to + 2, MIN, MAX, MIN + 1, MAX - 1, from - (1 << 8),
            to + (1 << 8), from - (1 << 16), to + (1 << 16), from - (1 << 30), to + (1 << 30), 715827883, -715827882};
    }

    static int[] arrow(int... a) {
        return a;
    }

    /** Tells arrows as rows of i, j, b(i, j), b(j, i). */
    SeedBench told(int n, int m, int[]... arrows) {
        SeedBench x = new SeedBench();
        tell(x, n, m, arrows);
        return x;
    }

    void tell(SeedBench x, int n, int m, int[]... arrows) {
        due("table", x.table(n, m), true);
        for (int[] a : arrows) {
            due("arrows", x.arrows(a[0], a[1], a[2]), true);
            if (a.length > 3) {
                due("arrows", x.arrows(a[1], a[0], a[3]), true);
            }
        }
    }

    SeedBench begun(int n, int m, int[]... arrows) {
        SeedBench x = told(n, m, arrows);
        due("begin", x.begin(), 0);
        return x;
    }

    void begin(SeedBench x, int n, int m, int[]... arrows) {
        tell(x, n, m, arrows);
        due("begin", x.begin(), 0);
    }

    /** A chain 0 - 1 - 2 .. of single arrows. */
    SeedBench chain(int n) {
        int[][] arrows = new int[n - 1][];
        for (int i = 1; i < n; i++) {
            arrows[i - 1] = arrow(i - 1, i, 1, -1);
        }
        return begun(n, 0, arrows);
    }

    void tellRow(SeedBench x, int... places) {
        for (int i = 0; i < places.length; i++) {
            due("row", x.row(places.length, i, places[i]), true);
        }
    }

    SeedBench cut(int corners, int... fences) {
        SeedBench x = new SeedBench();
        cut(x, 0, corners, fences);
        return x;
    }

    void cut(SeedBench x, int s, int corners, int... fences) {
        due("ring", x.ring(s, corners), true);
        for (int i = 0; i < fences.length; i++) {
            due("fence", x.fence(s, fences[i] / 100, fences[i] % 100), i + 1);
        }
    }

    /** All fences that end at one corner: a cutting. */
    void fan(SeedBench x, int s, int corners, int corner) {
        due("ring", x.ring(s, corners), true);
        for (int i = 2; i < corners - 1; i++) {
            due("fence", x.fence(s, corner, (corner + i) % corners), i - 1);
        }
    }

    void turns(SeedBench x, int... places) {
        for (int k : places) {
            due("turn(" + k + ") is done", x.turn(k) > 0, true);
        }
    }

    /**
     * All parts in use: a cutting and a ring half cut, a way, steps, letters of all seeds, a row, two seeds kept,
     * three turns done, and another table being told.
     */
    void busy(SeedBench x) {
        cut(x, 0, 6, 2, 3, 4);
        cut(x, 1, 6, 103, 105, 305);
        due("way", x.way(), 3);
        cut(x, 1, 7, 2, 305);
        begin(x, 3, 0, arrow(0, 1, 1, -1), arrow(1, 2, 1, -1), arrow(0, 2, 1, -1));
        due("finite", x.finite(), 0);
        begin(x, 3, 2, arrow(0, 1, 1, -1), arrow(1, 2, 1, -1), arrow(3, 0, 1), arrow(4, 1, -1));
        due("keep", x.keep(0), true);
        turns(x, 1);
        due("keep", x.keep(2), true);
        turns(x, 0, 2);
        due("all", x.all(), 14);
        tellRow(x, 0, 2, 1);
        tell(x, 2, 1, arrow(0, 1, 2, -3), arrow(2, 0, 5));
    }
}
