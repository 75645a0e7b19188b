import java.util.function.Consumer;

/**
 * The bounds that part I of the document names, promises 1 to 14: the last inputs on either side of each, what is
 * answered there, and that nothing happens where the document says so.
 */
public final class SeedEdgesTest extends Bench {
    private final Twins twins = new Twins(check);

    public static void main(String[] args) {
        SeedEdgesTest test = new SeedEdgesTest();
        test.newObject();
        test.shapes();
        test.noSuchShape();
        test.tableIsAllNought();
        test.seedStaysTillBegin();
        test.cells();
        test.noSuchCell();
        test.noTableTold();
        test.valuesTold();
        test.begun();
        test.refusedBegins();
        test.leastFault();
        test.pairsOfSigns();
        test.sizesOfGroups();
        test.sizesAlongCircles();
        test.noSuchSize();
        test.turnedOnce();
        test.productOfNone();
        test.tableTurnedAtOnce();
        test.noSuchTurn();
        test.hundredTurns();
        test.refusedTurnsDoNotCount();
        test.nothingToTakeBack();
        test.takenBack();
        test.noSuchB();
        test.noSuchLetter();
        test.noSuchTerm();
        test.noSuchVariable();
        test.termsInOrder();
        test.heldForGood();
        test.keptSeeds();
        test.noSuchKept();
        test.nothingKept();
        test.sameSeeds();
        test.oneCellIsAnother();
        test.heldRowsAsTheyAre();
        test.check.end();
    }

    private void nothingHappens(String name, Consumer<SeedBench> ahead, Consumer<SeedBench> refused) {
        twins.nothingHappens(name, ahead, refused);
    }

    /** On a new object and where all is in use. */
    private void neverHappens(String name, Consumer<SeedBench> refused) {
        nothingHappens(name + " (new)", x -> { }, refused);
        nothingHappens(name + " (busy)", this::busy, refused);
    }

    // ---- promise 1

    /** 1: A SEED of one PLACE, no HELD ones; a RING of four CORNERS without FENCES; nothing kept. */
    private void newObject() {
        SeedBench x = new SeedBench();
        int[] counts = {1, 0, 0, 1, 0};
        for (int what = 0; what < 5; what++) {
            due("1 count(" + what + ")", x.count(what), counts[what]);
        }
        for (int i = 0; i < 7; i++) {
            due("1 size(" + i + ")", x.size(i), i == 0 ? 1 : 0);
            due("1 terms(" + i + ")", x.terms(i), i == 0 ? 1 : 0);
            due("1 ones(" + i + ")", x.ones(i), i == 0 ? 1 : 0);
            due("1 b(" + i + ", 0)", x.b(i, 0), 0);
        }
        due("1 term(0, 0, -1)", x.term(0, 0, NONE), 1);
        due("1 term(0, 0, 0)", x.term(0, 0, 0), 1);
        due("1 term(0, 0, 1)", x.term(0, 0, 1), 0);
        due("1 term(0, 1, -1)", x.term(0, 1, NONE), 0);
        due("1 least(0, 0)", x.least(0, 0), 1);
        for (int s = 0; s < 2; s++) {
            due("1 corners", x.ringOf(s, 0), 4);
            due("1 fences", x.ringOf(s, 1), 0);
            due("1 no cutting", x.ringOf(s, 2), 0);
            due("1 thirds of the last corner", x.ringOf(s, 13), 1);
            due("1 no more corners", x.ringOf(s, 14), NONE);
            due("1 no fence", x.ringOf(s, 100), NONE);
        }
        for (int k = 0; k < 4; k++) {
            due("1 same(" + k + ")", x.same(k), NONE);
        }
        due("1 back()", x.back(), false);
        due("1 begin()", x.begin(), NONE);
        due("1 turn(1)", x.turn(1), NONE);
        due("1 turn(0)", x.turn(0), 1);
    }

    // ---- promise 2

    /** 2: n is 1 .. 6, m is 0 .. 6: each shape that there is, its letters, and where it ends. */
    private void shapes() {
        SeedBench x = new SeedBench();
        for (int n = 1; n <= 6; n++) {
            for (int m = 0; m <= 6; m++) {
                String shape = "2 table(" + n + ", " + m + "): ";
                x = m % 3 == 0 ? new SeedBench() : x;
                due(shape + "true", x.table(n, m), true);
                due(shape + "begin()", x.begin(), 0);
                due(shape + "places", x.count(0), n);
                due(shape + "held", x.count(1), m);
                due(shape + "terms", x.count(3), n);
                for (int i = 0; i < n; i++) {
                    due(shape + "size", x.size(i), 1);
                    due(shape + "letter " + i, x.term(i, 0, NONE), 1);
                    due(shape + "letter " + i, x.term(i, 0, i), 1);
                    due(shape + "letter " + i, x.term(i, 0, i == 0 ? n + m - 1 : 0), i == 0 && n + m == 1 ? 1 : 0);
                }
                due(shape + "no size", x.size(n), 0);
                due(shape + "no letter", x.terms(n), 0);
                due(shape + "the last place", x.turn(n - 1), 1);
                due(shape + "no place", x.turn(n), NONE);
            }
        }
    }

    /** 2: false, and nothing happens, for others. */
    private void noSuchShape() {
        neverHappens("2 places", x -> {
            for (int n : outside(1, 6)) {
                due("2 table(" + n + ", 0)", x.table(n, 0), false);
                due("2 table(" + n + ", 6)", x.table(n, 6), false);
            }
        });
        neverHappens("2 held ones", x -> {
            for (int m : outside(0, 6)) {
                due("2 table(1, " + m + ")", x.table(1, m), false);
                due("2 table(6, " + m + ")", x.table(6, m), false);
            }
        });
        neverHappens("2 neither", x -> {
            due("2 table(0, 7)", x.table(0, 7), false);
            due("2 table(7, -1)", x.table(7, -1), false);
            due("2 table(0, 0)", x.table(0, 0), false);
            due("2 table(7, 7)", x.table(7, 7), false);
            due("2 table(MIN, MIN)", x.table(MIN, MIN), false);
            due("2 table(MAX, MAX)", x.table(MAX, MAX), false);
        });
    }

    /** 2: .. is being told, all 0: also where another one was, greater, lesser or of the same shape. */
    private void tableIsAllNought() {
        int[][] shapes = {{6, 6}, {1, 0}, {3, 2}, {6, 0}, {1, 6}, {6, 6}};
        for (int[] shape : shapes) {
            SeedBench x = told(6, 6);
            for (int i = 0; i < 12; i++) {
                for (int j = 0; j < 6; j++) {
                    due("3 arrows", x.arrows(i, j, 9), true);
                }
            }
            tell(x, shape[0], shape[1]);
            tell(x, 6, 6);
            due("2 begin()", x.begin(), 0);
            for (int i = 0; i < 12; i++) {
                for (int j = 0; j < 6; j++) {
                    due("2 all 0: b(" + i + ", " + j + ")", x.b(i, j), 0);
                }
            }
        }
    }

    /** 2: The SEED stays till begin(). */
    private void seedStaysTillBegin() {
        Consumer<SeedBench> telling = x -> {
            due("2 table(6, 6)", x.table(6, 6), true);
            due("3 arrows", x.arrows(0, 1, 9), true);
            due("3 arrows", x.arrows(1, 0, -9), true);
            due("3 arrows", x.arrows(11, 5, 9), true);
            due("2 table(1, 0)", x.table(1, 0), true);
            due("2 table(5, 3)", x.table(5, 3), true);
            due("3 arrows", x.arrows(2, 2, 1), true);
        };
        twins.stays("2 till begin() (new)", x -> { }, telling, Twins.SEED, Twins.UNDONE, Twins.TURNED, Twins.KEPT,
                Twins.SOUGHT, Twins.ROW, Twins.RINGS, Twins.FENCES, Twins.WAY);
        twins.stays("2 till begin() (busy)", this::busy, telling, Twins.SEED, Twins.UNDONE, Twins.TURNED, Twins.KEPT,
                Twins.SOUGHT, Twins.ROW, Twins.RINGS, Twins.FENCES, Twins.WAY);
    }

    // ---- promise 3

    /** 3: i 0 .. n + m - 1, j 0 .. n - 1, of each shape. */
    private void cells() {
        for (int n = 1; n <= 6; n++) {
            for (int m = 0; m <= 6; m++) {
                SeedBench x = told(n, m);
                String shape = "3 of table(" + n + ", " + m + "): ";
                due(shape + "the first cell", x.arrows(0, 0, 0), true);
                due(shape + "the last row", x.arrows(n + m - 1, 0, 0), true);
                due(shape + "the last column", x.arrows(0, n - 1, 0), true);
                due(shape + "the last cell", x.arrows(n + m - 1, n - 1, 0), true);
                due(shape + "behind the last row", x.arrows(n + m, 0, 0), false);
                due(shape + "behind the last row", x.arrows(n + m, n - 1, 0), false);
                due(shape + "behind the last column", x.arrows(0, n, 0), false);
                due(shape + "behind the last column", x.arrows(n + m - 1, n, 0), false);
                due(shape + "ahead of the first row", x.arrows(-1, n - 1, 0), false);
                due(shape + "ahead of the first column", x.arrows(n + m - 1, -1, 0), false);
                if (m > 0) {
                    due(shape + "a held one", x.arrows(n + m - 1, n - 1, n + m), n + m <= 9);
                    due(shape + "begin()", x.begin(), 0);
                    due(shape + "a held one", x.b(n + m - 1, n - 1), n + m <= 9 ? n + m : 0);
                    due(shape + "b behind the last row", x.b(n + m, n - 1), 0);
                    due(shape + "b behind the last column", x.b(n + m - 1, n), 0);
                }
            }
        }
    }

    /** 3: false: there is none such. */
    private void noSuchCell() {
        nothingHappens("3 rows", this::busy, x -> {
            for (int i : outside(0, 2)) {
                due("3 arrows(" + i + ", 0, 1)", x.arrows(i, 0, 1), false);
                due("3 arrows(" + i + ", 1, 0)", x.arrows(i, 1, 0), false);
            }
        });
        nothingHappens("3 columns", this::busy, x -> {
            for (int j : outside(0, 1)) {
                due("3 arrows(0, " + j + ", 1)", x.arrows(0, j, 1), false);
                due("3 arrows(2, " + j + ", 0)", x.arrows(2, j, 0), false);
            }
        });
        nothingHappens("3 neither", this::busy, x -> {
            due("3 arrows(3, 2, 1)", x.arrows(3, 2, 1), false);
            due("3 arrows(-1, -1, 1)", x.arrows(-1, -1, 1), false);
            due("3 arrows(-1, 6, 1)", x.arrows(-1, 6, 1), false);
            due("3 arrows(1, -6, 1)", x.arrows(1, -6, 1), false);
            due("3 arrows(MIN, MIN, MIN)", x.arrows(MIN, MIN, MIN), false);
            due("3 arrows(MAX, MAX, MAX)", x.arrows(MAX, MAX, MAX), false);
        });
    }

    /** 3: false: no TABLE is being told; what is wrong with table() doesn't begin one. */
    private void noTableTold() {
        nothingHappens("3 no table", x -> { }, x -> {
            due("3 no table", x.arrows(0, 0, 0), false);
            due("2 no such table", x.table(0, 0), false);
            due("2 no such table", x.table(1, 7), false);
            due("3 no table", x.arrows(0, 0, 0), false);
            due("3 no table", x.arrows(0, 0, 1), false);
            due("3 no table", x.arrows(MIN, MAX, 0), false);
            due("4 no table", x.begin(), NONE);
        });
        SeedBench x = new SeedBench();
        due("2 table(1, 0)", x.table(1, 0), true);
        due("3 arrows(0, 0, 0)", x.arrows(0, 0, 0), true);
        due("4 begin()", x.begin(), 0);
    }

    /** 3: v is -9 .. 9; false: it stays as it was. */
    private void valuesTold() {
        for (int v = -9; v <= 9; v++) {
            SeedBench x = told(1, 1);
            due("3 v " + v, x.arrows(1, 0, v), true);
            for (int wrong : outside(-9, 9)) {
                due("3 v " + wrong, x.arrows(1, 0, wrong), false);
            }
            due("4 begin()", x.begin(), 0);
            due("3 v " + v + " stays", x.b(1, 0), v);
        }
        nothingHappens("3 values", this::busy, x -> {
            for (int v : outside(-9, 9)) {
                due("3 v " + v, x.arrows(0, 1, v), false);
                due("3 v " + v, x.arrows(2, 1, v), false);
            }
        });
        SeedBench x = told(2, 0, arrow(0, 1, 9, -9), arrow(0, 1, -4, 5));
        due("3 the latest counts", x.begin(), 0);
        due("3 the latest counts", x.b(0, 1), -4);
        due("3 the latest counts", x.b(1, 0), 5);
    }

    // ---- promise 4

    /** 4: .. its LETTERS the first ones, nothing was turned: 0. The TABLE stays told; all else stays. */
    private void begun() {
        twins.stays("4 begin()", this::busy, x -> due("4 begin()", x.begin(), 0), Twins.TOLD, Twins.RINGS,
                Twins.WAY);
        SeedBench x = new SeedBench();
        busy(x);
        due("4 begin()", x.begin(), 0);
        due("4 nothing was turned", x.count(2), 0);
        due("4 nothing was turned", x.back(), false);
        due("4 places", x.count(0), 2);
        due("4 held", x.count(1), 1);
        due("4 terms", x.count(3), 2);
        due("4 first letters", x.term(0, 0, 0), 1);
        due("4 first letters", x.term(1, 0, 1), 1);
        due("4 first letters", x.least(1, 2), 0);
        due("4 the table", x.b(0, 1), 2);
        due("4 the table", x.b(2, 0), 5);
        due("4 sizes", x.size(0), 3);
        due("4 sizes", x.size(1), 2);
        due("4 kept seeds stay", x.same(0), 0);
        due("4 nothing is kept as 1", x.same(1), NONE);
        due("4 the latest all() stays", x.count(4), 14);
        due("4 the latest finite() stays", x.step(0), 1);
        due("4 the row stays, with a place that is no more", x.order(), NONE);
        due("6 turn", x.turn(0), 2);
        due("4 it stays told: begin() again", x.begin(), 0);
        due("4 begin() again", x.count(2), 0);
        due("4 begin() again", x.terms(0), 1);
        due("4 it stays told: arrows", x.arrows(2, 0, -5), true);
        due("4 arrows are for the next begin()", x.b(2, 0), 5);
        due("4 begin() again", x.begin(), 0);
        due("4 begin() again", x.b(2, 0), -5);
    }

    /** 4: Else nothing happens, and 1, 2, 3 (NONE: no TABLE is being told). */
    private void refusedBegins() {
        nothingHappens("4 no table", x -> { }, x -> due("4 begin()", x.begin(), NONE));
        nothingHappens("4 no table, turned", x -> turns(x, 0, 0, 0), x -> due("4 begin()", x.begin(), NONE));
        int[][][] faults = {
            {arrow(0, 0, 1)}, {arrow(2, 2, -9)}, {arrow(0, 1, 1)}, {arrow(2, 0, 9, 9)}, {arrow(1, 2, -1, -1)},
            {arrow(0, 1, 1, -1), arrow(1, 2, 1, -1), arrow(2, 0, 1, -2)},
            {arrow(0, 1, 5, -5), arrow(1, 2, 6, -6), arrow(2, 0, 7, -8), arrow(3, 0, 9)}};
        int[] due = {1, 1, 2, 2, 2, 3, 3};
        for (int f = 0; f < faults.length; f++) {
            int[][] arrows = faults[f];
            int want = due[f];
            nothingHappens("4 fault " + want, x -> {
                busy(x);
                tell(x, 3, 1, arrows);
            }, x -> {
                due("4 begin()", x.begin(), want);
                due("4 begin() again", x.begin(), want);
            });
        }
    }

    /** 4: the least of these. */
    private void leastFault() {
        int[] diagonal = arrow(2, 2, 1);
        int[] signs = arrow(3, 4, 1, 1);
        int[][] circle = {arrow(0, 1, 1, -1), arrow(1, 2, 1, -1), arrow(2, 0, 1, -2)};
        due("4 1, 2 and 3", told(5, 0, circle[0], circle[1], circle[2], signs, diagonal).begin(), 1);
        due("4 1 and 3", told(5, 0, circle[0], circle[1], circle[2], diagonal).begin(), 1);
        due("4 1 and 2", told(5, 0, signs, diagonal).begin(), 1);
        due("4 2 and 3", told(5, 0, circle[0], circle[1], circle[2], signs).begin(), 2);
        due("4 3", told(5, 0, circle[0], circle[1], circle[2]).begin(), 3);
        for (int n = 1; n <= 6; n++) {
            for (int i = 0; i < n; i++) {
                due("4 b(" + i + ", " + i + ") 1", told(n, 6, arrow(i, i, 1)).begin(), 1);
                due("4 b(" + i + ", " + i + ") -1", told(n, 0, arrow(i, i, -1)).begin(), 1);
            }
        }
        SeedBench x = told(2, 0, arrow(0, 0, 1), arrow(0, 1, 1, 1));
        due("4 1 and 2", x.begin(), 1);
        due("3 mended", x.arrows(0, 0, 0), true);
        due("4 2 is left", x.begin(), 2);
        due("3 mended", x.arrows(1, 0, -1), true);
        due("4 none is left", x.begin(), 0);
    }

    /** 4: 2: b(i, j) and b(j, i) are not both 0 or one above and one below 0; HELD rows are free. */
    private void pairsOfSigns() {
        int[] values = {-9, -1, 0, 1, 9};
        for (int one : values) {
            for (int other : values) {
                boolean good = one == 0 && other == 0 || one > 0 && other < 0 || one < 0 && other > 0;
                due("4 " + one + ", " + other, told(2, 0, arrow(0, 1, one, other)).begin(), good ? 0 : 2);
                due("4 " + one + ", " + other, told(6, 0, arrow(5, 4, one, other)).begin(), good ? 0 : 2);
                due("4 " + one + ", " + other, told(6, 6, arrow(0, 5, one, other)).begin(), good ? 0 : 2);
                due("4 held " + one + ", " + other,
                        told(2, 6, arrow(2, 0, one), arrow(2, 1, other), arrow(7, 1, one)).begin(), 0);
            }
        }
        for (int n = 1; n <= 6; n++) {
            SeedBench x = told(n, 6);
            for (int i = n; i < n + 6; i++) {
                for (int j = 0; j < n; j++) {
                    due("3 held rows are free", x.arrows(i, j, (i + j) % 2 == 0 ? 9 : -9), true);
                }
            }
            due("4 held rows are free", x.begin(), 0);
            due("5 held rows have no sizes", x.size(n - 1), 1);
        }
    }

    // ---- promise 5

    /** 5: SIZES of a GROUP are the least such: each group by itself, however its places lie. */
    private void sizesOfGroups() {
        SeedBench x = begun(6, 6, arrow(0, 3, 6, -4), arrow(1, 4, 2, -3), arrow(4, 2, -3, 4), arrow(6, 5, 9));
        int[] sizes = {2, 6, 3, 3, 4, 1};
        for (int i = 0; i < 6; i++) {
            due("5 size(" + i + ")", x.size(i), sizes[i]);
        }
        turns(x, 4);
        for (int i = 0; i < 6; i++) {
            due("5 size(" + i + ") of the turned seed", x.size(i), sizes[i]);
        }
        x = begun(6, 0, arrow(0, 1, 9, -1), arrow(1, 2, 9, -1), arrow(2, 3, 9, -1), arrow(3, 4, 9, -1),
                arrow(4, 5, 9, -1));
        for (int i = 0, size = 1; i < 6; i++, size *= 9) {
            due("5 size(" + i + "), a power of 9", x.size(i), size);
        }
        x = begun(6, 0, arrow(0, 1, 8, -9), arrow(0, 2, 1, -5), arrow(0, 3, 1, -7), arrow(0, 4, 1, -8),
                arrow(0, 5, 7, -9));
        int[] star = {2520, 2240, 504, 360, 315, 1960};
        for (int i = 0; i < 6; i++) {
            due("5 size(" + i + ") of a star", x.size(i), star[i]);
        }
        x = begun(2, 0, arrow(0, 1, 9, -9));
        due("5 not 9", x.size(0), 1);
        due("5 not 9", x.size(1), 1);
    }

    /** 4, 5: sizes along a circle must come out the same from both sides. */
    private void sizesAlongCircles() {
        SeedBench x = begun(3, 0, arrow(0, 1, 2, -1), arrow(1, 2, 2, -1), arrow(2, 0, 1, -4));
        due("5 size(0)", x.size(0), 1);
        due("5 size(1)", x.size(1), 2);
        due("5 size(2)", x.size(2), 4);
        due("4 3 of 4", told(3, 0, arrow(0, 1, 2, -1), arrow(1, 2, 2, -1), arrow(2, 0, 1, -3)).begin(), 3);
        due("4 5 of 4", told(3, 0, arrow(0, 1, 2, -1), arrow(1, 2, 2, -1), arrow(2, 0, 1, -5)).begin(), 3);
        due("4 the last pair", told(6, 0, arrow(0, 1, 1, -1), arrow(1, 2, 1, -1), arrow(2, 3, 1, -1),
                arrow(3, 4, 1, -1), arrow(4, 5, 1, -1), arrow(5, 0, 1, -2)).begin(), 3);
        due("4 the last pair", told(6, 0, arrow(0, 1, 1, -1), arrow(1, 2, 1, -1), arrow(2, 3, 1, -1),
                arrow(3, 4, 1, -1), arrow(4, 5, 1, -1), arrow(5, 0, 2, -2)).begin(), 0);
        due("4 a second group", told(6, 0, arrow(0, 1, 9, -8), arrow(3, 4, 1, -1), arrow(4, 5, 1, -1),
                arrow(5, 3, 2, -1)).begin(), 3);
    }

    /** 5: 0 if there is none such. */
    private void noSuchSize() {
        for (int n = 1; n <= 6; n++) {
            SeedBench x = begun(n, 6);
            due("5 the first", x.size(0), 1);
            due("5 the last", x.size(n - 1), 1);
            for (int i : outside(0, n - 1)) {
                due("5 size(" + i + ")", x.size(i), 0);
            }
        }
        neverHappens("5 sizes", x -> {
            for (int i : outside(0, 5)) {
                due("5 size(" + i + ")", x.size(i), 0);
            }
        });
    }

    // ---- promise 6

    /** 6: how many TERMS the LETTER there has then; all else stays. */
    private void turnedOnce() {
        twins.stays("6 turn", this::busy, x -> due("6 turn", x.turn(1) > 0, true), Twins.TOLD, Twins.RINGS,
                Twins.FENCES, Twins.WAY);
        SeedBench x = new SeedBench();
        busy(x);
        int[] before = {x.terms(0), x.terms(1), x.terms(2)};
        long first = x.what(0, 1);
        int terms = x.turn(1);
        due("6 turn(1)", terms, x.terms(1));
        due("6 others stay", x.terms(0), before[0]);
        due("6 others stay", x.terms(2), before[2]);
        due("6 one more", x.count(2), 4);
        due("6 its terms", x.count(3), before[0] + terms + before[2]);
        due("6 the latest all() stays", x.count(4), 14);
        due("6 the latest all() stays", x.what(0, 1), first);
        due("6 the latest finite() stays", x.step(0), 1);
    }

    /** Terms I: a product of none is 1: of both, of one, and of the other one. */
    private void productOfNone() {
        SeedBench x = begun(2, 2, arrow(2, 1, 3));
        due("6 neither", x.turn(0), 1);
        due("6 2 / x0", x.term(0, 0, NONE), 2);
        due("6 2 / x0", x.term(0, 0, 0), -1);
        due("12 2 / x0", x.ones(0), 2);
        due("6 back to x0", x.turn(0), 1);
        due("6 back to x0", x.term(0, 0, NONE), 1);
        due("6 back to x0", x.term(0, 0, 0), 1);
        due("6 y^3 and 1", x.turn(1), 2);
        due("6 y^3 and 1", x.term(1, 0, 2), 3);
        due("6 y^3 and 1", x.term(1, 1, 2), 0);
        due("6 y^3 and 1", x.term(1, 1, 1), -1);
        x = begun(2, 1, arrow(0, 1, -2, 1));
        due("6 1 and x1", x.turn(0), 2);
        due("6 1 and x1", x.term(0, 0, 1), 1);
        due("6 1 and x1", x.term(0, 1, 1), 0);
        x = begun(2, 1, arrow(0, 1, -2, 1));
        due("6 x0^2 and 1", x.turn(1), 2);
        due("6 x0^2 and 1", x.term(1, 0, 0), 2);
        due("6 x0^2 and 1", x.term(1, 1, 0), 0);
    }

    /** Terms I: Of the TABLE, all at once: both above 0, both below 0, and neither. */
    private void tableTurnedAtOnce() {
        int[] values = {-3, -1, 0, 1, 3};
        for (int in : values) {
            for (int out : values) {
                for (int was : new int[] {-5, 0, 5}) {
                    SeedBench x = begun(2, 1, arrow(0, 1, out, -out), arrow(2, 0, in), arrow(2, 1, was));
                    turns(x, 0);
                    boolean along = in > 0 && out > 0 || in < 0 && out < 0;
                    due("8 b(2, 1) by " + in + ", " + out, x.b(2, 1), was + (along ? Math.abs(in) * out : 0));
                    due("8 b(2, 0) by " + in + ", " + out, x.b(2, 0), -in);
                    due("8 b(0, 1) by " + in + ", " + out, x.b(0, 1), -out);
                    due("8 b(1, 0) by " + in + ", " + out, x.b(1, 0), out);
                    due("8 b(0, 0)", x.b(0, 0), 0);
                    due("8 b(1, 1)", x.b(1, 1), 0);
                }
            }
        }
        // A circle: what row and column 1 were counts, not what they become.
        SeedBench x = begun(3, 0, arrow(0, 1, 2, -2), arrow(1, 2, 3, -3), arrow(2, 0, 1, -1));
        turns(x, 1);
        due("8 b(0, 1)", x.b(0, 1), -2);
        due("8 b(1, 2)", x.b(1, 2), -3);
        due("8 b(0, 2)", x.b(0, 2), 5);
        due("8 b(2, 0)", x.b(2, 0), -5);
    }

    /** 6: NONE: no such PLACE. */
    private void noSuchTurn() {
        for (int n = 1; n <= 6; n++) {
            SeedBench x = begun(n, 6);
            due("6 the last", x.turn(n - 1), 1);
            for (int k : outside(0, n - 1)) {
                due("6 turn(" + k + ")", x.turn(k), NONE);
            }
            due("6 none was done", x.count(2), 1);
        }
        neverHappens("6 turns", x -> {
            for (int k : outside(0, 2)) {
                due("6 turn(" + k + ")", x.turn(k), NONE);
            }
        });
        nothingHappens("6 held ones are no places", this::busy, x -> due("6 turn(4)", x.turn(4), NONE));
        nothingHappens("6 a new object's one place", x -> { }, x -> due("6 turn(1)", x.turn(1), NONE));
    }

    private void hundred(SeedBench x) {
        begin(x, 2, 0, arrow(0, 1, 1, -1));
        for (int t = 0; t < 100; t++) {
            due("6 turn " + t, x.turn(t % 2) > 0, true);
        }
    }

    /** 6: -3: 100 TURNS are done (since begin(), not taken back). */
    private void hundredTurns() {
        nothingHappens("6 100 turns are done", this::hundred, x -> {
            due("6 turn(0)", x.turn(0), -3);
            due("6 turn(1)", x.turn(1), -3);
            due("6 turn(2)", x.turn(2), NONE);
            due("6 turn(-1)", x.turn(-1), NONE);
            due("6 turn(MIN)", x.turn(MIN), NONE);
            due("30 count(2)", x.count(2), 100);
        });
        SeedBench x = new SeedBench();
        hundred(x);
        due("7 back()", x.back(), true);
        due("30 99 are done", x.count(2), 99);
        due("6 the 100th again", x.turn(0) > 0, true);
        due("6 and no more", x.turn(0), -3);
        due("7 back()", x.back(), true);
        due("7 back()", x.back(), true);
        turns(x, 1, 0);
        due("6 and no more", x.turn(1), -3);
        due("15 all() turns for itself", x.all(), 5);
        tellRow(x, 0, 1);
        due("21 order() turns for itself", x.order(), 5);
        due("6 still no more", x.turn(1), -3);
        due("4 begin()", x.begin(), 0);
        due("6 since begin()", x.turn(1), 2);
        hundred(x);
        cut(x, 0, 4, 2);
        due("29 seed(0), as by begin()", x.seed(0), true);
        due("6 since seed()", x.turn(0), 1);
        due("30 count(2)", x.count(2), 1);
    }

    /** 6: turns that are not done don't count, nor do those of a table that is only told. */
    private void refusedTurnsDoNotCount() {
        SeedBench x = begun(2, 0, arrow(0, 1, 9, -9));
        turns(x, 0, 1);
        for (int t = 0; t < 120; t++) {
            due("6 spent", x.turn(0), SPENT);
            due("6 no place", x.turn(2), NONE);
        }
        due("30 count(2)", x.count(2), 2);
        for (int t = 2; t < 100; t++) {
            due("6 turn", x.turn(1) > 0, true);
        }
        due("30 count(2)", x.count(2), 100);
        due("6 no more", x.turn(1), -3);
        due("2 table", x.table(1, 0), true);
        due("6 no more: it is told only", x.turn(1), -3);
    }

    // ---- promise 7

    /** 7: false: none is done. */
    private void nothingToTakeBack() {
        nothingHappens("7 new", x -> { }, x -> due("7 back()", x.back(), false));
        nothingHappens("7 begun", x -> {
            busy(x);
            due("4 begin()", x.begin(), 0);
        }, x -> due("7 back()", x.back(), false));
        nothingHappens("7 all taken back", x -> {
            busy(x);
            for (int t = 0; t < 3; t++) {
                due("7 back()", x.back(), true);
            }
        }, x -> {
            due("7 back()", x.back(), false);
            due("7 back()", x.back(), false);
        });
        nothingHappens("7 the seed of a cutting", x -> {
            busy(x);
            due("29 seed(0)", x.seed(0), true);
        }, x -> due("7 back()", x.back(), false));
        nothingHappens("7 none was done", x -> {
            due("6 no place", x.turn(1), NONE);
            due("6 no place", x.turn(-1), NONE);
        }, x -> due("7 back()", x.back(), false));
    }

    /** 7: The latest TURN is taken back: as if it had not been done. */
    private void takenBack() {
        nothingHappens("7 turned and taken back", this::busy, x -> {
            for (int k = 0; k < 3; k++) {
                due("6 turn", x.turn(k) > 0, true);
                due("7 back()", x.back(), true);
            }
            turns(x, 0, 1, 2, 1);
            for (int t = 0; t < 4; t++) {
                due("7 back()", x.back(), true);
            }
        });
        nothingHappens("7 a new object's turn", x -> { }, x -> {
            turns(x, 0, 0, 0);
            for (int t = 0; t < 3; t++) {
                due("7 back()", x.back(), true);
            }
        });
        SeedBench x = new SeedBench();
        hundred(x);
        for (int t = 100; t > 0; t--) {
            due("30 count(2)", x.count(2), t);
            due("7 back()", x.back(), true);
        }
        due("7 none is done", x.back(), false);
        due("30 count(2)", x.count(2), 0);
        due("7 the first letters", x.term(0, 0, 0), 1);
        due("7 the first letters", x.term(1, 0, 1), 1);
    }

    // ---- promises 8 to 12

    /** 8: 0 if there is none such. */
    private void noSuchB() {
        SeedBench x = begun(2, 2, arrow(0, 1, 7, -7), arrow(2, 0, 1), arrow(2, 1, 2), arrow(3, 0, 3), arrow(3, 1, 4));
        int[][] cells = {{0, 7}, {-7, 0}, {1, 2}, {3, 4}};
        for (int i = 0; i < 4; i++) {
            for (int j = 0; j < 2; j++) {
                due("8 b(" + i + ", " + j + ")", x.b(i, j), cells[i][j]);
            }
            for (int j : outside(0, 1)) {
                due("8 b(" + i + ", " + j + ")", x.b(i, j), 0);
            }
        }
        for (int i : outside(0, 3)) {
            for (int j = -1; j < 3; j++) {
                due("8 b(" + i + ", " + j + ")", x.b(i, j), 0);
            }
            due("8 b(" + i + ", " + i + ")", x.b(i, i), 0);
        }
        // What a greater table left behind is none of the lesser one's.
        begin(x, 6, 6, arrow(0, 5, 9, -9), arrow(11, 0, 9), arrow(2, 1, 9, -9));
        begin(x, 2, 0, arrow(0, 1, 1, -1));
        due("8 b(2, 1)", x.b(2, 1), 0);
        due("8 b(11, 0)", x.b(11, 0), 0);
        due("8 b(0, 5)", x.b(0, 5), 0);
        neverHappens("8 cells", y -> {
            for (int i : outside(0, 11)) {
                due("8 b(" + i + ", 0)", y.b(i, 0), 0);
                due("8 b(0, " + i + ")", y.b(0, i), 0);
            }
        });
    }

    /** 9, 11, 12: 0 if there is none such LETTER; HELD ones are none. */
    private void noSuchLetter() {
        for (int n = 1; n <= 6; n++) {
            SeedBench x = begun(n, 6);
            due("9 the last", x.terms(n - 1), 1);
            due("10 the last", x.term(n - 1, 0, n - 1), 1);
            due("11 the last", x.least(n - 1, n - 1), 1);
            due("12 the last", x.ones(n - 1), 1);
            for (int i : outside(0, n - 1)) {
                due("9 terms(" + i + ")", x.terms(i), 0);
                due("10 term(" + i + ", 0, -1)", x.term(i, 0, NONE), 0);
                due("11 least(" + i + ", 0)", x.least(i, 0), 0);
                due("12 ones(" + i + ")", x.ones(i), 0);
                due("10 term(" + i + ", 0, " + i + ")", x.term(i, 0, i), 0);
                due("11 least(" + i + ", " + i + ")", x.least(i, i), 0);
            }
        }
        neverHappens("9, 10, 11, 12 letters", x -> {
            for (int i : outside(0, 2)) {
                due("9 terms(" + i + ")", x.terms(i), 0);
                due("10 term(" + i + ", 0, -1)", x.term(i, 0, NONE), 0);
                due("11 least(" + i + ", 0)", x.least(i, 0), 0);
                due("12 ones(" + i + ")", x.ones(i), 0);
            }
        });
    }

    /** 10: 0 if there is none such TERM; the first and the last are there. */
    private void noSuchTerm() {
        SeedBench x = begun(2, 0, arrow(0, 1, 2, -2));
        turns(x, 0, 1);
        due("9 terms(1)", x.terms(1), 4);
        due("10 the first", x.term(1, 0, NONE), 1);
        due("10 the last", x.term(1, 3, NONE), 1);
        due("10 the last", x.term(1, 3, 0), -2);
        for (int t : outside(0, 3)) {
            for (int v = -1; v < 2; v++) {
                due("10 term(1, " + t + ", " + v + ")", x.term(1, t, v), 0);
            }
        }
        // The letter was longer before, and what it had then is no term now.
        due("7 back()", x.back(), true);
        due("10 one term again", x.term(1, 0, 1), 1);
        due("10 term(1, 1, -1)", x.term(1, 1, NONE), 0);
        due("10 term(1, 1, 0)", x.term(1, 1, 0), 0);
        due("10 term(1, 3, 0)", x.term(1, 3, 0), 0);
        noTermsBehindTheLast();
        neverHappens("10 terms", y -> {
            for (int t : outside(0, 9)) {
                due("10 term(0, " + t + ", -1)", y.term(0, t, NONE), 0);
                due("10 term(0, " + t + ", 0)", y.term(0, t, 0), 0);
            }
        });
    }

    /** Letters grow and shrink: what a longer one had is no TERM of a shorter one. */
    private void noTermsBehindTheLast() {
        SeedBench x = begun(3, 0, arrow(0, 1, 1, -1), arrow(1, 2, 1, -1));
        int[] places = {0, 1, 2, 0, 1, 2, 0, 1, 2, 0, 1, 2, 2, 1, 0, 2, 1, 0, 1, 1, 2, 2};
        for (int k : places) {
            turns(x, k);
            for (int i = 0; i < 3; i++) {
                due("10 the last", x.term(i, x.terms(i) - 1, NONE) > 0, true);
                due("10 behind the last", x.term(i, x.terms(i), NONE), 0);
                due("10 behind the last", x.term(i, x.terms(i), 0), 0);
            }
        }
    }

    /** 10, 11: of v NONE the number; 0 if there is none such VARIABLE, of each shape. */
    private void noSuchVariable() {
        for (int n = 1; n <= 6; n++) {
            for (int m = 0; m <= 6; m += 3) {
                SeedBench x = m == 0 ? begun(n, 0) : begun(n, m, arrow(n + m - 1, n - 1, 9));
                turns(x, n - 1);
                String shape = " of table(" + n + ", " + m + ")";
                due("10 the number" + shape, x.term(n - 1, 0, NONE), m == 0 ? 2 : 1);
                due("10 the last variable" + shape, x.term(n - 1, 0, n + m - 1), m == 0 ? -1 : 9);
                due("11 the last variable" + shape, x.least(n - 1, n + m - 1), m == 0 ? -1 : 0);
                due("11 the place's variable" + shape, x.least(n - 1, n - 1), -1);
                for (int v : outside(-1, n + m - 1)) {
                    due("10 v " + v + shape, x.term(n - 1, 0, v), 0);
                    due("11 v " + v + shape, x.least(n - 1, v), 0);
                }
                due("11 v NONE" + shape, x.least(n - 1, NONE), 0);
            }
        }
    }

    /** Terms I: the greater powers first, no two with the same, numbers above 0; those of HELD ones not below 0. */
    private void termsInOrder() {
        SeedBench x = begun(3, 1, arrow(0, 1, 2, -2), arrow(1, 2, 2, -2), arrow(2, 0, 2, -2), arrow(3, 0, 1));
        turns(x, 0, 1, 2, 0);
        int terms = x.terms(0);
        due("9 some terms", terms > 20, true);
        long sum = 0;
        int least = 0;
        for (int t = 0; t < terms; t++) {
            due("10 number", x.term(0, t, NONE) > 0, true);
            due("10 power of a held one", x.term(0, t, 3) >= 0, true);
            sum += x.term(0, t, NONE);
            least = Math.min(least, (int) x.term(0, t, 0));
            if (t > 0) {
                int v = 0;
                while (v < 3 && x.term(0, t, v) == x.term(0, t - 1, v)) {
                    v++;
                }
                due("10 terms " + (t - 1) + " and " + t, x.term(0, t, v) < x.term(0, t - 1, v), true);
            }
        }
        due("12 the sum of its numbers", x.ones(0), sum);
        due("11 the least power", x.least(0, 0), least);
        due("10 none behind", x.term(0, terms, NONE), 0);
    }

    /** Terms I: HELD ones are their VARIABLES n + i for good, the last of six too. */
    private void heldForGood() {
        for (int i = 0; i < 6; i++) {
            SeedBench x = begun(1, 6, arrow(1 + i, 0, 4));
            turns(x, 0);
            for (int v = 1; v < 7; v++) {
                due("10 y^4, variable " + v, x.term(0, 0, v), v == 1 + i ? 4 : 0);
                due("10 and 1, variable " + v, x.term(0, 1, v), 0);
            }
            due("8 its row", x.b(1 + i, 0), -4);
            due("6 it is no place", x.turn(1 + i), NONE);
        }
    }

    // ---- promises 13 and 14

    /** 13: The SEED is kept as k (0 .. 3); all else stays. */
    private void keptSeeds() {
        twins.stays("13 keep", this::busy, x -> {
            for (int k = 0; k < 4; k++) {
                due("13 keep(" + k + ")", x.keep(k), true);
            }
        }, Twins.SEED, Twins.TOLD, Twins.UNDONE, Twins.TURNED, Twins.SOUGHT, Twins.ROW, Twins.RINGS, Twins.FENCES,
                Twins.WAY);
        SeedBench x = begun(2, 0, arrow(0, 1, 2, -2));
        for (int k = 0; k < 4; k++) {
            due("13 keep(" + k + ")", x.keep(k), true);
            for (int other = 0; other < 4; other++) {
                due("14 same(" + other + ")", x.same(other), other > k ? NONE : other == k ? 1 : 0);
            }
            turns(x, k % 2);
        }
        for (int t = 3; t >= 0; t--) {
            due("7 back()", x.back(), true);
            for (int k = 0; k < 4; k++) {
                due("14 as kept " + k, x.same(k), k == t ? 1 : 0);
            }
        }
        due("13 anew", x.keep(3), true);
        due("14 anew", x.same(3), 1);
        due("14 the first stays", x.same(0), 1);
        due("4 begin() keeps them", x.begin(), 0);
        due("14 the first stays", x.same(0), 1);
    }

    /** 13: false for others. */
    private void noSuchKept() {
        neverHappens("13 keep", x -> {
            for (int k : outside(0, 3)) {
                due("13 keep(" + k + ")", x.keep(k), false);
            }
        });
    }

    /** 14: NONE: nothing is kept as k. */
    private void nothingKept() {
        neverHappens("14 same", x -> {
            for (int k : outside(0, 3)) {
                due("14 same(" + k + ")", x.same(k), NONE);
            }
            due("14 same(1)", x.same(1), NONE);
            due("14 same(3)", x.same(3), NONE);
        });
        for (int kept = 0; kept < 4; kept++) {
            SeedBench x = new SeedBench();
            due("13 keep", x.keep(kept), true);
            for (int k = 0; k < 4; k++) {
                due("14 same(" + k + ")", x.same(k), k == kept ? 1 : NONE);
            }
        }
    }

    /** Terms I: SAME: of the same n, m; their PLACES can be put in an order; LETTERS and TABLES the same. */
    private void sameSeeds() {
        SeedBench x = begun(3, 1);
        due("13 keep", x.keep(0), true);
        int[][] others = {{2, 1}, {4, 1}, {3, 0}, {3, 2}, {1, 3}, {2, 2}};
        for (int[] shape : others) {
            begin(x, shape[0], shape[1]);
            due("14 another shape", x.same(0), 0);
        }
        begin(x, 3, 1);
        due("14 the same shape", x.same(0), 1);
        // The five turns of two places put them in the other order; one more of each puts them back.
        x = begun(2, 0, arrow(0, 1, 1, -1));
        due("13 keep", x.keep(0), true);
        int same = 0;
        for (int t = 1; t <= 10; t++) {
            turns(x, (t + 1) % 2);
            due("14 behind " + t, x.same(0), t % 5 == 0 ? 1 : 0);
            same += x.same(0);
        }
        due("14 twice", same, 2);
        // The same letters with arrows the other way round, and the same table with another letter.
        begin(x, 2, 0, arrow(0, 1, -1, 1));
        due("14 arrows the other way round", x.same(0), 0);
        turns(x, 0);
        due("14 the table, but another letter", x.b(0, 1), 1);
        due("14 the table, but another letter", x.same(0), 0);
    }

    /** Terms I: TABLES are the same: one number that is another one is enough, wherever it stands. */
    private void oneCellIsAnother() {
        int[][] chain = new int[11][];
        for (int i = 0; i < 5; i++) {
            chain[i] = arrow(i, i + 1, 2, -2);
        }
        for (int i = 0; i < 6; i++) {
            chain[5 + i] = arrow(6 + i, i, 2);
        }
        SeedBench x = begun(6, 6, chain);
        due("13 keep", x.keep(1), true);
        for (int i = 0; i < 12; i++) {
            for (int j = 0; j < 6; j++) {
                int b = x.b(i, j);
                if (b != 0 || i > 5) {
                    due("3 arrows", x.arrows(i, j, b > 0 ? 1 : b < 0 ? -1 : 1), true);
                    due("4 begin()", x.begin(), 0);
                    due("14 but b(" + i + ", " + j + ")", x.same(1), 0);
                    due("3 arrows", x.arrows(i, j, b), true);
                    due("4 begin()", x.begin(), 0);
                }
            }
        }
        due("14 as kept", x.same(1), 1);
    }

    /** Terms I: HELD rows as they are: they are not put in another order. */
    private void heldRowsAsTheyAre() {
        SeedBench x = begun(2, 2, arrow(2, 0, 1), arrow(3, 0, 2));
        due("13 keep", x.keep(0), true);
        begin(x, 2, 2, arrow(2, 0, 2), arrow(3, 0, 1));
        due("14 held rows changed about", x.same(0), 0);
        begin(x, 2, 2, arrow(2, 1, 1), arrow(3, 1, 2));
        due("14 at the other place", x.same(0), 0);
        begin(x, 2, 2, arrow(2, 0, 1), arrow(3, 0, 2));
        due("14 the same", x.same(0), 1);
        begin(x, 2, 2, arrow(2, 0, 1), arrow(3, 0, 2), arrow(3, 1, 1));
        due("14 one cell more", x.same(0), 0);
    }
}
