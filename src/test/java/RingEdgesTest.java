import java.util.function.Consumer;

/**
 * The bounds that part III of the document names, promises 22 to 29: the last inputs on either side of each, what is
 * answered there, and that nothing happens where the document says so.
 */
public final class RingEdgesTest extends Bench {
    private final Twins twins = new Twins(check);

    public static void main(String[] args) {
        RingEdgesTest test = new RingEdgesTest();
        test.rings();
        test.noSuchRing();
        test.anotherSlotStays();
        test.neighbours();
        test.itIsThere();
        test.crossings();
        test.noMoreFences();
        test.noSuchFence();
        test.fenceChangesItsRingOnly();
        test.flips();
        test.noCutting();
        test.noSuchFenceToFlip();
        test.cornersOfRings();
        test.fencesInOrder();
        test.noSuchRingOf();
        test.friezeOfEachRing();
        test.friezeOfNoCutting();
        test.noSuchFrieze();
        test.noWay();
        test.noFlips();
        test.longestWays();
        test.noSuchGoes();
        test.latestWay();
        test.nineCorners();
        test.thirdsOfFans();
        test.noSeed();
        test.toldByASeed();
        test.check.end();
    }

    private void nothingHappens(String name, Consumer<SeedBench> ahead, Consumer<SeedBench> refused) {
        twins.nothingHappens(name, ahead, refused);
    }

    private void neverHappens(String name, Consumer<SeedBench> refused) {
        nothingHappens(name + " (new)", x -> { }, refused);
        nothingHappens(name + " (busy)", this::busy, refused);
    }

    // ---- promise 22

    /** 22: N is 4 .. 10, slots 0, 1; without FENCES, also where some were. */
    private void rings() {
        SeedBench x = new SeedBench();
        for (int s = 0; s < 2; s++) {
            for (int n = 4; n <= 10; n++) {
                due("22 ring(" + s + ", " + n + ")", x.ring(s, n), true);
                due("25 corners", x.ringOf(s, 0), n);
                due("25 no fences", x.ringOf(s, 1), 0);
                due("25 no cutting", x.ringOf(s, 2), 0);
                fan(x, s, n, n - 1);
                due("25 a cutting", x.ringOf(s, 2), 1);
                due("22 the same again", x.ring(s, n), true);
                due("25 no fences", x.ringOf(s, 1), 0);
                due("25 no fences", x.ringOf(s, 100), NONE);
                fan(x, s, n, 0);
            }
        }
    }

    /** 22: false for others. */
    private void noSuchRing() {
        neverHappens("22 slots", x -> {
            for (int s : outside(0, 1)) {
                due("22 ring(" + s + ", 4)", x.ring(s, 4), false);
                due("22 ring(" + s + ", 10)", x.ring(s, 10), false);
            }
        });
        neverHappens("22 corners", x -> {
            for (int n : outside(4, 10)) {
                due("22 ring(0, " + n + ")", x.ring(0, n), false);
                due("22 ring(1, " + n + ")", x.ring(1, n), false);
            }
            for (int n = -1; n < 4; n++) {
                due("22 ring(0, " + n + ")", x.ring(0, n), false);
            }
        });
        neverHappens("22 neither", x -> {
            due("22 ring(2, 3)", x.ring(2, 3), false);
            due("22 ring(-1, 11)", x.ring(-1, 11), false);
            due("22 ring(MIN, MIN)", x.ring(MIN, MIN), false);
            due("22 ring(MAX, MAX)", x.ring(MAX, MAX), false);
        });
    }

    /** 22: .. is that of slot s: the other slot, the SEED and the latest WAY stay. */
    private void anotherSlotStays() {
        twins.stays("22 ring(1, 10)", this::busy, x -> due("22 ring(1, 10)", x.ring(1, 10), true), Twins.SEED,
                Twins.TOLD, Twins.UNDONE, Twins.TURNED, Twins.KEPT, Twins.SOUGHT, Twins.ROW);
        SeedBench x = new SeedBench();
        busy(x);
        due("22 ring(1, 10)", x.ring(1, 10), true);
        due("25 slot 0", x.ringOf(0, 0), 6);
        due("25 slot 0", x.ringOf(0, 102), 4);
        due("28 the latest way", x.goes(0), 2);
        due("28 the latest way", x.goes(2), 3);
        due("22 ring(0, 4)", x.ring(0, 4), true);
        due("25 slot 1", x.ringOf(1, 0), 10);
        due("28 the latest way", x.goes(2), 3);
    }

    // ---- promise 23

    private static boolean isFence(int n, int a, int b) {
        int apart = Math.abs(a - b);
        return apart > 1 && apart < n - 1;
    }

    /** 23: neighbours (N - 1 and 0 are some), or one and the same; all others are fences, either way round. */
    private void neighbours() {
        for (int n = 4; n <= 10; n++) {
            for (int a = 0; a < n; a++) {
                SeedBench x = new SeedBench();
                for (int b = 0; b < n; b++) {
                    due("22 ring", x.ring(1, n), true);
                    boolean fence = isFence(n, a, b);
                    due("23 fence(1, " + a + ", " + b + ") of " + n, x.fence(1, a, b), fence ? 1 : NONE);
                    due("25 fences", x.ringOf(1, 1), fence ? 1 : 0);
                    due("25 the fence", x.ringOf(1, 100), fence ? 100 * Math.min(a, b) + Math.max(a, b) : NONE);
                    due("25 the other slot", x.ringOf(0, 1), 0);
                }
            }
            SeedBench x = new SeedBench();
            due("22 ring", x.ring(0, n), true);
            due("23 N - 1 and 0", x.fence(0, n - 1, 0), NONE);
            due("23 0 and N - 1", x.fence(0, 0, n - 1), NONE);
            due("23 N - 2 and 0", x.fence(0, n - 2, 0), 1);
            due("23 N - 1 and N - 1", x.fence(0, n - 1, n - 1), NONE);
        }
    }

    /** 23: it is there, either way round. */
    private void itIsThere() {
        for (int n = 4; n <= 10; n++) {
            int corners = n;
            nothingHappens("23 it is there", x -> fan(x, 0, corners, 1), x -> {
                for (int i = 2; i < corners - 1; i++) {
                    due("23 it is there", x.fence(0, 1, (1 + i) % corners), NONE);
                    due("23 it is there", x.fence(0, (1 + i) % corners, 1), NONE);
                }
            });
        }
    }

    /** 23: it CROSSES one: the ends of one lie on both sides of the other one; not if they meet at a CORNER. */
    private void crossings() {
        for (int n = 4; n <= 10; n++) {
            for (int a = 0; a < n; a++) {
                for (int b = a + 2; b < n; b++) {
                    if (isFence(n, a, b)) {
                        crossings(n, a, b);
                    }
                }
            }
        }
    }

    private void crossings(int n, int a, int b) {
        for (int c = 0; c < n; c++) {
            SeedBench x = new SeedBench();
            for (int d = 0; d < n; d++) {
                if (!isFence(n, c, d) || Math.min(a, b) == Math.min(c, d) && Math.max(a, b) == Math.max(c, d)) {
                    continue;
                }
                boolean between = c > a && c < b;
                boolean beyond = c < a || c > b;
                boolean cross = between && (d < a || d > b) || beyond && d > a && d < b;
                due("22 ring", x.ring(0, n), true);
                due("23 fence", x.fence(0, a, b), 1);
                String name = "23 " + c + ", " + d + " and " + a + ", " + b + " of " + n;
                due(name, x.fence(0, c, d), cross ? NONE : 2);
                due(name, x.ringOf(0, 1), cross ? 1 : 2);
            }
        }
    }

    /** 23: a CUTTING is N - 3 FENCES: no more can be put. */
    private void noMoreFences() {
        for (int n = 4; n <= 10; n++) {
            SeedBench x = new SeedBench();
            fan(x, 1, n, n / 2);
            due("25 fences", x.ringOf(1, 1), n - 3);
            due("25 a cutting", x.ringOf(1, 2), 1);
            for (int a = 0; a < n; a++) {
                for (int b = 0; b < n; b++) {
                    due("23 no more", x.fence(1, a, b), NONE);
                }
            }
            due("25 fences", x.ringOf(1, 1), n - 3);
        }
    }

    /** 23: NONE, and nothing happens: no such slot, CORNERS; and each of the other reasons. */
    private void noSuchFence() {
        neverHappens("23 slots", x -> {
            for (int s : outside(0, 1)) {
                due("23 fence(" + s + ", 0, 2)", x.fence(s, 0, 2), NONE);
                due("23 fence(" + s + ", 1, 3)", x.fence(s, 1, 3), NONE);
            }
        });
        nothingHappens("23 corners (new)", x -> { }, x -> {
            for (int a : outside(0, 3)) {
                due("23 fence(0, " + a + ", 2)", x.fence(0, a, 2), NONE);
                due("23 fence(1, 0, " + a + ")", x.fence(1, 0, a), NONE);
            }
        });
        nothingHappens("23 corners (busy)", this::busy, x -> {
            for (int a : outside(0, 6)) {
                due("23 fence(1, " + a + ", 3)", x.fence(1, a, 3), NONE);
                due("23 fence(1, 5, " + a + ")", x.fence(1, 5, a), NONE);
                due("23 fence(1, " + a + ", " + a + ")", x.fence(1, a, a), NONE);
            }
        });
        nothingHappens("23 others (busy)", this::busy, x -> {
            due("23 neighbours", x.fence(1, 0, 6), NONE);
            due("23 neighbours", x.fence(1, 6, 5), NONE);
            due("23 one and the same", x.fence(1, 4, 4), NONE);
            due("23 it is there", x.fence(1, 5, 3), NONE);
            due("23 it crosses one", x.fence(1, 1, 4), NONE);
            due("23 it crosses one", x.fence(1, 4, 6), NONE);
            due("23 a cutting", x.fence(0, 1, 3), NONE);
            due("23 all wrong", x.fence(MIN, MIN, MIN), NONE);
            due("23 all wrong", x.fence(MAX, MAX, MAX), NONE);
        });
    }

    /** 23: a FENCE of the RING in slot s: the other slot, the SEED and the latest WAY stay. */
    private void fenceChangesItsRingOnly() {
        twins.stays("23 fence(1, 2, 5)", this::busy, x -> due("23 fence(1, 2, 5)", x.fence(1, 2, 5), 3), Twins.SEED,
                Twins.TOLD, Twins.UNDONE, Twins.TURNED, Twins.KEPT, Twins.SOUGHT, Twins.ROW, Twins.WAY);
        SeedBench x = new SeedBench();
        busy(x);
        due("23 fence", x.fence(1, 2, 5), 3);
        due("25 slot 0", x.ringOf(0, 1), 3);
        due("25 slot 1", x.ringOf(1, 1), 3);
        due("23 fence", x.fence(1, 0, 5), 4);
        due("25 a cutting", x.ringOf(1, 2), 1);
    }

    // ---- promise 24

    /** 24: the new one as 100 times its lesser CORNER and the greater one; flipped again it is the first one. */
    private void flips() {
        for (int n = 4; n <= 10; n++) {
            for (int corner = 0; corner < n; corner++) {
                SeedBench x = new SeedBench();
                fan(x, 0, n, corner);
                for (int i = 2; i < n - 1; i++) {
                    int a = (corner + i) % n;
                    int before = (corner + i - 1) % n;
                    int behind = (corner + i + 1) % n;
                    int other = 100 * Math.min(before, behind) + Math.max(before, behind);
                    due("24 flip of a fan", x.flip(0, i % 2 == 0 ? corner : a, i % 2 == 0 ? a : corner), other);
                    due("25 as many", x.ringOf(0, 1), n - 3);
                    due("24 it is there no more", x.flip(0, corner, a), NONE);
                    due("24 back again", x.flip(0, behind, before),
                            100 * Math.min(corner, a) + Math.max(corner, a));
                }
                due("25 as at first", x.ringOf(0, 10 + corner), n - 2);
            }
        }
    }

    /** 24: NONE, and nothing happens: no CUTTING. */
    private void noCutting() {
        neverHappens("24 no slot", x -> {
            for (int s : outside(0, 1)) {
                due("24 flip(" + s + ", 0, 2)", x.flip(s, 0, 2), NONE);
            }
            due("24 half cut", x.flip(1, 0, 2), NONE);
            due("24 half cut", x.flip(1, 3, 5), NONE);
        });
        for (int n = 5; n <= 10; n++) {
            int corners = n;
            nothingHappens("24 a fence is missing", x -> {
                x.ring(1, corners);
                for (int b = 2; b < corners - 2; b++) {
                    due("23 fence", x.fence(1, 0, b), b - 1);
                }
            }, x -> {
                for (int b = 2; b < corners - 1; b++) {
                    due("24 a fence is missing", x.flip(1, 0, b), NONE);
                }
            });
        }
        SeedBench x = new SeedBench();
        due("24 four corners without a fence", x.flip(0, 0, 2), NONE);
        due("23 fence", x.fence(0, 0, 2), 1);
        due("24 four corners with one", x.flip(0, 0, 2), 103);
    }

    /** 24: NONE, and nothing happens: no such FENCE. */
    private void noSuchFenceToFlip() {
        nothingHappens("24 corners", this::busy, x -> {
            for (int a : outside(0, 5)) {
                due("24 flip(0, 0, " + a + ")", x.flip(0, 0, a), NONE);
                due("24 flip(0, " + a + ", 3)", x.flip(0, a, 3), NONE);
                due("24 flip(0, " + a + ", " + a + ")", x.flip(0, a, a), NONE);
            }
        });
        nothingHappens("24 fences", this::busy, x -> {
            int[][] none = {{0, 0}, {0, 1}, {0, 5}, {5, 0}, {1, 3}, {3, 1}, {1, 5}, {2, 4}, {5, 5}, {2, 3}, {3, 5}};
            for (int[] w : none) {
                due("24 flip(0, " + w[0] + ", " + w[1] + ")", x.flip(0, w[0], w[1]), NONE);
            }
            due("24 flip(MIN, MIN, MIN)", x.flip(MIN, MIN, MIN), NONE);
            due("24 flip(MAX, MAX, MAX)", x.flip(MAX, MAX, MAX), NONE);
        });
        twins.stays("24 flip(0, 0, 3)", this::busy, x -> due("24 flip(0, 0, 3)", x.flip(0, 0, 3), 204), Twins.SEED,
                Twins.TOLD, Twins.UNDONE, Twins.TURNED, Twins.KEPT, Twins.SOUGHT, Twins.ROW);
    }

    // ---- promise 25

    /** 25: 10 + i: THIRDS of CORNER i, 0 .. N - 1: how many FENCES end there, and 1. */
    private void cornersOfRings() {
        for (int n = 4; n <= 10; n++) {
            SeedBench x = new SeedBench();
            due("22 ring", x.ring(0, n), true);
            for (int i = 0; i < n; i++) {
                due("25 thirds without fences", x.ringOf(0, 10 + i), 1);
            }
            fan(x, 1, n, n - 1);
            for (int i = 0; i < n; i++) {
                int thirds = i == n - 1 ? n - 2 : i == 0 || i == n - 2 ? 1 : 2;
                due("25 thirds of a fan", x.ringOf(1, 10 + i), thirds);
            }
            for (int s = 0; s < 2; s++) {
                due("25 9", x.ringOf(s, 9), NONE);
                due("25 no such corner", x.ringOf(s, 10 + n), NONE);
                due("25 no such corner", x.ringOf(s, 11 + n), NONE);
            }
        }
    }

    /** 25: 100 + i: the i-th FENCE in their order, by the lesser CORNER, then the greater one. */
    private void fencesInOrder() {
        for (int n = 4; n <= 10; n++) {
            SeedBench x = new SeedBench();
            due("22 ring", x.ring(0, n), true);
            due("25 no fence", x.ringOf(0, 100), NONE);
            // From the greatest corner down, so that they are not told in their order.
            for (int b = n - 2; b >= 2; b--) {
                due("23 fence", x.fence(0, b, 0), n - 1 - b);
                for (int i = 0; i < n; i++) {
                    due("25 fence " + i, x.ringOf(0, 100 + i), i < n - 1 - b ? b + i : NONE);
                }
            }
            due("25 99", x.ringOf(0, 99), NONE);
            due("25 behind the last", x.ringOf(0, 100 + n - 3), NONE);
        }
        SeedBench x = cut(8, 507, 105, 305, 103);
        int[] order = {103, 105, 305, 507, NONE, NONE};
        for (int i = 0; i < order.length; i++) {
            due("25 fence " + i, x.ringOf(0, 100 + i), order[i]);
        }
    }

    /** 25: NONE for others. */
    private void noSuchRingOf() {
        neverHappens("25 slots", x -> {
            for (int s : outside(0, 1)) {
                for (int what : new int[] {0, 1, 2, 10, 100}) {
                    due("25 ringOf(" + s + ", " + what + ")", x.ringOf(s, what), NONE);
                }
            }
        });
        neverHappens("25 what", x -> {
            for (int what = 3; what < 10; what++) {
                due("25 ringOf(0, " + what + ")", x.ringOf(0, what), NONE);
            }
            for (int what = 17; what < 22; what++) {
                due("25 ringOf(1, " + what + ")", x.ringOf(1, what), NONE);
            }
            for (int what : outside(0, 106)) {
                due("25 ringOf(0, " + what + ")", x.ringOf(0, what), NONE);
                due("25 ringOf(1, " + what + ")", x.ringOf(1, what), NONE);
            }
        });
        SeedBench x = new SeedBench();
        fan(x, 0, 10, 0);
        for (int what = -20; what < 1200; what++) {
            boolean some = what >= 0 && what < 3 || what >= 10 && what < 20 || what >= 100 && what < 107;
            if (what % 400 == 0) {
                x = new SeedBench();
                fan(x, 0, 10, 0);
            }
            due("25 ringOf(0, " + what + ")", x.ringOf(0, what) == NONE, !some);
        }
    }

    // ---- promise 26

    /** 26: i from 0 to N - 1, j from i on to i + N: the first and the last ones of each row, and 0 beyond. */
    private void friezeOfEachRing() {
        for (int n = 4; n <= 10; n++) {
            for (int i = 0; i < n; i++) {
                SeedBench x = new SeedBench();
                fan(x, 1, n, 0);
                due("26 f(i, i)", x.frieze(1, i, i), 0);
                due("26 f(i, i + 1)", x.frieze(1, i, i + 1), 1);
                due("26 f(i, i + 2) is thirds", x.frieze(1, i, i + 2), x.ringOf(1, 10 + (i + 1) % n));
                due("26 f(i, i + N - 2) is thirds", x.frieze(1, i, i + n - 2), x.ringOf(1, 10 + (i + n - 1) % n));
                due("26 f(i, i + N - 1)", x.frieze(1, i, i + n - 1), 1);
                due("26 f(i, i + N)", x.frieze(1, i, i + n), 0);
                due("26 f(i, i + N + 1)", x.frieze(1, i, i + n + 1), 0);
                due("26 f(i, i + N + 2)", x.frieze(1, i, i + n + 2), 0);
                due("26 f(i, i - 1)", x.frieze(1, i, i - 1), 0);
                due("26 f(i, i - 2)", x.frieze(1, i, i - 2), 0);
                for (int j = i + 1; j < i + n; j++) {
                    // From the fan's corner all are 1; between two others as many as they are apart.
                    int a = Math.min(i, j % n);
                    int b = Math.max(i, j % n);
                    due("26 f(" + i + ", " + j + ") of a fan", x.frieze(1, i, j), a == 0 ? 1 : b - a);
                }
            }
        }
        SeedBench x = cut(4, 2);
        long[][] rows = {{0, 1, 1, 1, 0}, {0, 1, 2, 1, 0}, {0, 1, 1, 1, 0}, {0, 1, 2, 1, 0}};
        for (int i = 0; i < 4; i++) {
            for (int d = 0; d < 5; d++) {
                due("26 four corners", x.frieze(0, i, i + d), rows[i][d]);
            }
        }
    }

    /** 26: 0 if it is none. */
    private void friezeOfNoCutting() {
        for (int n = 4; n <= 10; n++) {
            SeedBench x = new SeedBench();
            due("22 ring", x.ring(0, n), true);
            for (int fences = 0; fences < n - 3; fences++) {
                for (int j = 0; j <= n; j++) {
                    due("26 no cutting", x.frieze(0, 0, j), 0);
                    due("26 no cutting", x.frieze(0, n - 1, n - 1 + j), 0);
                }
                due("23 fence", x.fence(0, 0, fences + 2), fences + 1);
            }
            due("26 a cutting", x.frieze(0, 0, 1), 1);
            due("26 a cutting", x.frieze(0, n - 1, n), 1);
        }
    }

    /** 26: 0 if there is none such. */
    private void noSuchFrieze() {
        neverHappens("26 slots", x -> {
            for (int s : outside(0, 1)) {
                due("26 frieze(" + s + ", 0, 1)", x.frieze(s, 0, 1), 0);
            }
        });
        neverHappens("26 i", x -> {
            for (int i : outside(0, 5)) {
                due("26 frieze(0, " + i + ", 1)", x.frieze(0, i, 1), 0);
                due("26 frieze(0, " + i + ", i + 1)", x.frieze(0, i, i + 1), 0);
                due("26 frieze(0, " + i + ", i + 2)", x.frieze(0, i, i + 2), 0);
            }
        });
        nothingHappens("26 j", this::busy, x -> {
            for (int j : outside(5, 11)) {
                due("26 frieze(0, 5, " + j + ")", x.frieze(0, 5, j), 0);
            }
            for (int j : outside(0, 6)) {
                due("26 frieze(0, 0, " + j + ")", x.frieze(0, 0, j), 0);
            }
            due("26 frieze(MIN, MIN, MIN)", x.frieze(MIN, MIN, MIN), 0);
            due("26 frieze(0, MIN, MIN + 1)", x.frieze(0, MIN, MIN + 1), 0);
            due("26 frieze(0, MAX, MIN)", x.frieze(0, MAX, MIN), 0);
        });
    }

    // ---- promises 27 and 28

    /** 27: NONE: no CUTTINGS of as many CORNERS; the latest WAY stays. */
    private void noWay() {
        nothingHappens("27 new", x -> { }, x -> due("27 way()", x.way(), NONE));
        nothingHappens("27 slot 1 is none", this::busy, x -> due("27 way()", x.way(), NONE));
        nothingHappens("27 slot 0 is none", x -> {
            busy(x);
            due("22 ring", x.ring(0, 7), true);
            fan(x, 1, 7, 0);
        }, x -> due("27 way()", x.way(), NONE));
        nothingHappens("27 neither is one", x -> {
            busy(x);
            due("22 ring", x.ring(0, 7), true);
        }, x -> due("27 way()", x.way(), NONE));
        for (int n = 4; n <= 10; n++) {
            for (int other = 4; other <= 10; other++) {
                SeedBench x = new SeedBench();
                fan(x, 0, n, 0);
                fan(x, 1, other, 0);
                due("27 of " + n + " and " + other, x.way(), n == other ? 0 : NONE);
            }
        }
        SeedBench x = cut(5, 2, 3);
        cut(x, 1, 5, 2);
        due("27 a fence is missing", x.way(), NONE);
        due("23 fence", x.fence(1, 2, 4), 2);
        due("27 a cutting", x.way(), 1);
        due("28 goes(0)", x.goes(0), 3);
    }

    /** 27, 28: from a CUTTING to itself no FENCE goes; the RINGS and the SEED stay. */
    private void noFlips() {
        for (int n = 4; n <= 10; n++) {
            SeedBench x = new SeedBench();
            fan(x, 0, n, n - 1);
            fan(x, 1, n, n - 1);
            due("27 no flips", x.way(), 0);
            due("28 none goes", x.goes(0), NONE);
            fan(x, 1, n, 0);
            int flips = x.way();
            due("27 to the next corner's fan", flips, n - 3);
            due("28 the last", x.goes(n - 4) != NONE, true);
            due("28 no more", x.goes(n - 3), NONE);
            fan(x, 1, n, n - 1);
            due("27 no flips", x.way(), 0);
            due("28 none goes any more", x.goes(0), NONE);
            due("28 none goes any more", x.goes(n - 4), NONE);
        }
        Consumer<SeedBench> cuttings = x -> {
            busy(x);
            fan(x, 1, 6, 1);
        };
        twins.stays("27 way()", cuttings, x -> due("27 way()", x.way(), 3), Twins.SEED, Twins.TOLD, Twins.UNDONE,
                Twins.TURNED, Twins.KEPT, Twins.SOUGHT, Twins.ROW, Twins.RINGS, Twins.FENCES);
    }

    private void way(int corners, int[] from, int[] to, int... goes) {
        SeedBench x = new SeedBench();
        cut(x, 0, corners, from);
        cut(x, 1, corners, to);
        due("27 the longest way of " + corners, x.way(), goes.length);
        for (int i = 0; i < goes.length; i++) {
            due("28 goes(" + i + ") of " + corners, x.goes(i), goes[i]);
        }
        due("28 behind the last of " + corners, x.goes(goes.length), NONE);
        for (int g : goes) {
            due("24 it can be flipped", x.flip(0, g / 100, g % 100) != NONE, true);
        }
        for (int i = 0; i < corners - 3; i++) {
            due("27 it leads there", x.ringOf(0, 100 + i), x.ringOf(1, 100 + i));
        }
    }

    /** 27, 28: the longest ways that there are, of each number of CORNERS. */
    private void longestWays() {
        way(4, new int[] {2}, new int[] {103}, 2);
        way(5, new int[] {2, 3}, new int[] {103, 104}, 2, 3);
        way(6, new int[] {103, 105, 305}, new int[] {2, 4, 204}, 103, 105, 305, 205);
        way(7, new int[] {104, 105, 106, 204}, new int[] {2, 3, 5, 305}, 104, 106, 105, 204, 205);
        way(8, new int[] {6, 105, 106, 205, 305}, new int[] {2, 3, 307, 406, 407}, 105, 106, 205, 206, 6, 305, 306);
        way(9, new int[] {4, 103, 104, 408, 508, 608}, new int[] {7, 107, 205, 206, 207, 305},
                4, 103, 104, 408, 204, 508, 608, 208, 108);
        way(10, new int[] {109, 209, 306, 308, 309, 406, 608}, new int[] {5, 7, 8, 104, 105, 204, 507},
                109, 209, 309, 308, 306, 3, 2, 406, 4, 608, 6);
    }

    /** 28: NONE: there are not so many. */
    private void noSuchGoes() {
        neverHappens("28 goes", x -> {
            for (int i : outside(0, 2)) {
                due("28 goes(" + i + ")", x.goes(i), NONE);
            }
        });
        SeedBench x = new SeedBench();
        for (int i = -1; i < 12; i++) {
            due("28 ahead of any way", x.goes(i), NONE);
        }
    }

    /** 28: on the latest WAY (that was not NONE), whatever the RINGS are by now. */
    private void latestWay() {
        SeedBench x = new SeedBench();
        fan(x, 0, 6, 0);
        cut(x, 1, 6, 103, 105, 305);
        due("27 way()", x.way(), 3);
        due("24 flip", x.flip(0, 0, 2), 103);
        due("28 goes(0)", x.goes(0), 2);
        due("22 ring", x.ring(0, 10), true);
        due("27 way()", x.way(), NONE);
        due("28 goes(0)", x.goes(0), 2);
        due("28 goes(1)", x.goes(1), 4);
        due("28 goes(2)", x.goes(2), 3);
        due("28 goes(3)", x.goes(3), NONE);
        fan(x, 0, 4, 0);
        fan(x, 1, 4, 1);
        due("27 way()", x.way(), 1);
        due("28 goes(0)", x.goes(0), 2);
        due("28 goes(1)", x.goes(1), NONE);
    }

    // ---- promise 29

    /** 29: THE SEED OF A CUTTING needs N at most 9: N - 3 PLACES, HELD ones none, as by begin(). */
    private void nineCorners() {
        for (int n = 4; n <= 9; n++) {
            for (int s = 0; s < 2; s++) {
                SeedBench x = new SeedBench();
                busy(x);
                fan(x, s, n, 0);
                due("29 seed(" + s + ") of " + n, x.seed(s), true);
                due("30 places", x.count(0), n - 3);
                due("30 held", x.count(1), 0);
                due("30 nothing was turned", x.count(2), 0);
                due("30 first letters", x.count(3), n - 3);
                due("7 nothing was turned", x.back(), false);
                due("30 the latest all() stays", x.count(4), 14);
                for (int i = 0; i < n - 3; i++) {
                    due("10 first letters", x.term(i, 0, i), 1);
                    due("5 size", x.size(i), 1);
                    for (int j = 0; j < n - 3; j++) {
                        // Of the third 0, i + 2, i + 3: from its side (0, i + 3) to (0, i + 2).
                        due("8 b(" + i + ", " + j + ")", x.b(i, j), i == j + 1 ? 1 : j == i + 1 ? -1 : 0);
                    }
                }
                due("25 the ring stays", x.ringOf(s, 2), 1);
                due("14 kept seeds stay", x.same(2), 0);
                due("14 nothing is kept as 1", x.same(1), NONE);
            }
        }
        SeedBench x = cut(9, 2, 204, 406, 4, 6, 7);
        due("29 seed(0)", x.seed(0), true);
        // Fences 02, 04, 06, 07, 24, 46: the third 0, 2, 4 from 02 to 24 to 04 to 02; 0, 4, 6 likewise.
        int[][] table = {{0, -1, 0, 0, 1, 0}, {1, 0, -1, 0, -1, 1}, {0, 1, 0, -1, 0, -1}, {0, 0, 1, 0, 0, 0},
            {-1, 1, 0, 0, 0, 0}, {0, -1, 1, 0, 0, 0}};
        for (int i = 0; i < 6; i++) {
            for (int j = 0; j < 6; j++) {
                due("8 b(" + i + ", " + j + ")", x.b(i, j), table[i][j]);
            }
        }
    }

    /**
     * Terms III: the sides of a third, (a, b), (b, c), (a, c), are neighbours or FENCES: at each CORNER's fan two fences
     * next to one another have a third of their own, whose other side is of neighbours.
     */
    private void thirdsOfFans() {
        for (int n = 5; n <= 9; n++) {
            for (int corner = 0; corner < n; corner++) {
                SeedBench x = new SeedBench();
                fan(x, 1, n, corner);
                due("29 seed(1)", x.seed(1), true);
                int arrows = 0;
                for (int i = 2; i < n - 2; i++) {
                    int one = (corner + i) % n;
                    int next = (corner + i + 1) % n;
                    int lesser = Math.min(one, next);
                    int greater = Math.max(one, next);
                    int toLesser = placeOf(x, corner, lesser);
                    int toGreater = placeOf(x, corner, greater);
                    // The corner is b: from (a, b) to (b, c); it is a: from (a, c) to (a, b); c: from (b, c) to (a, c).
                    boolean fromLesser = corner > lesser && corner < greater;
                    int from = fromLesser ? toLesser : toGreater;
                    int to = fromLesser ? toGreater : toLesser;
                    due("29 an arrow of the fan at " + corner + " of " + n, x.b(from, to), 1);
                    due("29 and back", x.b(to, from), -1);
                    arrows += 2;
                }
                for (int i = 0; i < n - 3; i++) {
                    for (int j = 0; j < n - 3; j++) {
                        arrows -= Math.abs(x.b(i, j));
                    }
                }
                due("29 no other arrows", arrows, 0);
            }
        }
    }

    private static int placeOf(SeedBench x, int a, int b) {
        for (int i = 0; i < 6; i++) {
            if (x.ringOf(1, 100 + i) == 100 * Math.min(a, b) + Math.max(a, b)) {
                return i;
            }
        }
        return NONE;
    }

    /** 29: false: it is none, or has ten CORNERS; and there is no such slot. */
    private void noSeed() {
        neverHappens("29 slots", x -> {
            for (int s : outside(0, 1)) {
                due("29 seed(" + s + ")", x.seed(s), false);
            }
        });
        nothingHappens("29 no cutting (new)", x -> { }, x -> {
            due("29 seed(0)", x.seed(0), false);
            due("29 seed(1)", x.seed(1), false);
        });
        nothingHappens("29 no cutting (busy)", this::busy, x -> due("29 seed(1)", x.seed(1), false));
        for (int s = 0; s < 2; s++) {
            int slot = s;
            nothingHappens("29 ten corners", x -> {
                busy(x);
                fan(x, slot, 10, 3);
            }, x -> due("29 seed of ten corners", x.seed(slot), false));
            nothingHappens("29 ten corners, no cutting", x -> {
                busy(x);
                cut(x, slot, 10, 2, 3, 4, 5, 6, 7);
            }, x -> due("29 seed of six fences", x.seed(slot), false));
            nothingHappens("29 nine corners, a fence is missing", x -> {
                busy(x);
                cut(x, slot, 9, 2, 3, 4, 5, 6);
            }, x -> due("29 seed of five fences", x.seed(slot), false));
        }
    }

    /** 29: .. and its TABLE the one that is being told. */
    private void toldByASeed() {
        for (int n = 4; n <= 9; n++) {
            SeedBench x = new SeedBench();
            fan(x, 1, n, 0);
            due("29 seed(1)", x.seed(1), true);
            due("3 the last cell", x.arrows(n - 4, n - 4, 0), true);
            due("3 no row", x.arrows(n - 3, 0, 0), false);
            due("3 no column", x.arrows(0, n - 3, 0), false);
            turns(x, 0, n - 4);
            due("4 begin()", x.begin(), 0);
            due("4 begin()", x.count(2), 0);
            due("4 begin()", x.b(n - 4, n - 5), n > 4 ? 1 : 0);
            due("22 the ring goes, the table stays", x.ring(1, 10), true);
            due("4 begin()", x.begin(), 0);
            due("30 places", x.count(0), n - 3);
        }
        SeedBench x = new SeedBench();
        busy(x);
        due("29 seed(0)", x.seed(0), true);
        due("3 what was told ahead is gone", x.arrows(2, 2, 1), true);
        due("4 begin()", x.begin(), 1);
        due("30 the seed stays", x.count(0), 3);
        due("3 mended", x.arrows(2, 2, 0), true);
        due("4 begin()", x.begin(), 0);
    }
}
