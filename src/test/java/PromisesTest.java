/** Each promise of the document with answers worked out by hand or known from books: ordinary, at edges, wrong. */
public final class PromisesTest extends Bench {
    public static void main(String[] args) {
        PromisesTest test = new PromisesTest();
        test.newObject();
        test.tableAndArrows();
        test.begin();
        test.size();
        test.turn();
        test.turnIsSpent();
        test.manyTurns();
        test.back();
        test.tableOfSeed();
        test.letters();
        test.keepAndSame();
        test.all();
        test.finite();
        test.rowAndOrder();
        test.ringAndFence();
        test.flip();
        test.ringOf();
        test.frieze();
        test.way();
        test.seedOfCutting();
        test.count();
        test.check.end();
    }

    private void newObject() {
        due("NONE", SeedBench.NONE, -1);
        SeedBench x = new SeedBench();
        due("1 count(0)", x.count(0), 1);
        due("1 count(1)", x.count(1), 0);
        due("1 count(2)", x.count(2), 0);
        due("1 count(3)", x.count(3), 1);
        due("1 count(4)", x.count(4), 0);
        due("1 size(0)", x.size(0), 1);
        due("1 b(0, 0)", x.b(0, 0), 0);
        due("1 term(0, 0, 0)", x.term(0, 0, 0), 1);
        due("1 begin()", x.begin(), NONE);
        due("1 arrows", x.arrows(0, 0, 0), false);
        due("1 back()", x.back(), false);
        for (int s = 0; s < 2; s++) {
            due("1 ringOf(s, 0)", x.ringOf(s, 0), 4);
            due("1 ringOf(s, 1)", x.ringOf(s, 1), 0);
            due("1 ringOf(s, 2)", x.ringOf(s, 2), 0);
        }
        for (int k = -1; k < 5; k++) {
            due("1 same", x.same(k), NONE);
        }
        due("1 what(0, 0)", x.what(0, 0), NONE);
        due("1 tables()", x.tables(), 0);
        due("1 step(0)", x.step(0), NONE);
        due("1 order()", x.order(), NONE);
        due("1 way()", x.way(), NONE);
        due("1 goes(0)", x.goes(0), NONE);
        due("1 seed(0)", x.seed(0), false);
        due("1 turn(0)", x.turn(0), 1);
        due("1 its number", x.term(0, 0, NONE), 2);
        due("1 its power", x.term(0, 0, 0), -1);
        due("1 ones(0)", x.ones(0), 2);
        due("1 all()", x.all(), 2);
        due("1 finite()", x.finite(), 1);
        due("1 tables()", x.tables(), 1);
    }

    private void tableAndArrows() {
        SeedBench x = new SeedBench();
        int[][] wrong = {{0, 0}, {-1, 0}, {7, 0}, {1, -1}, {1, 7}, {MIN, 0}, {1, MAX}, {MAX, MIN}};
        for (int[] w : wrong) {
            due("2 table wrong", x.table(w[0], w[1]), false);
        }
        due("2 nothing happened", x.begin(), NONE);
        due("2 table(6, 6)", x.table(6, 6), true);
        due("2 the seed stays", x.count(0), 1);
        due("3 last cell", x.arrows(11, 5, 9), true);
        due("3 no row", x.arrows(12, 5, 1), false);
        due("3 no column", x.arrows(0, 6, 1), false);
        due("3 below", x.arrows(-1, 0, 1), false);
        due("3 below", x.arrows(0, -1, 1), false);
        due("3 far", x.arrows(MAX, MIN, 1), false);
        due("3 v 10", x.arrows(11, 5, 10), false);
        due("3 v -10", x.arrows(11, 5, -10), false);
        due("3 v far", x.arrows(11, 5, MIN), false);
        due("3 v -9", x.arrows(10, 5, -9), true);
        due("4 begin()", x.begin(), 0);
        due("3 kept what was right", x.b(11, 5), 9);
        due("3 kept what was right", x.b(10, 5), -9);
        due("2 a wrong one changes nothing", x.table(7, 7), false);
        due("4 begin() again", x.begin(), 0);
        due("2 still told", x.b(11, 5), 9);
        due("2 all 0 again", x.table(6, 6), true);
        due("4 begin()", x.begin(), 0);
        due("2 all 0 again", x.b(11, 5), 0);
    }

    private void begin() {
        SeedBench x = told(3, 1, arrow(0, 1, 1, -1), arrow(3, 2, 5));
        due("4 good", x.begin(), 0);
        due("4 turn", x.turn(0), 2);
        due("4 begin() anew", x.begin(), 0);
        due("4 first letters", x.term(0, 0, 0), 1);
        due("4 nothing was turned", x.count(2), 0);
        due("4 nothing was turned", x.back(), false);
        due("4 b as told", x.b(0, 1), 1);
        due("3 the table stays told", x.arrows(0, 1, 2), true);
        due("4 sizes 1, 2", x.begin(), 0);
        due("5 size(0)", x.size(0), 1);
        due("5 size(1)", x.size(1), 2);

        tell(x, 3, 0, arrow(0, 1, 1, 1), arrow(2, 2, 1));
        due("4 both 1 and 2", x.begin(), 1);
        due("4 nothing happens", x.count(1), 1);
        tell(x, 3, 0, arrow(0, 1, 1, 1), arrow(1, 2, 1, -1), arrow(2, 0, 1, -2));
        due("4 both 2 and 3", x.begin(), 2);
        tell(x, 3, 0, arrow(0, 1, 1), arrow(1, 2, 1, -1));
        due("4 one 0", x.begin(), 2);
        tell(x, 3, 0, arrow(0, 1, -1, -1));
        due("4 both below 0", x.begin(), 2);
        tell(x, 3, 0, arrow(0, 1, 1, -1), arrow(1, 2, 1, -1), arrow(2, 0, 1, -2));
        due("4 no sizes", x.begin(), 3);
        tell(x, 3, 0, arrow(0, 1, 2, -1), arrow(1, 2, 2, -1), arrow(2, 0, 1, -4));
        due("4 sizes along a circle", x.begin(), 0);
        due("5 size(0)", x.size(0), 1);
        due("5 size(1)", x.size(1), 2);
        due("5 size(2)", x.size(2), 4);
        tell(x, 1, 6, arrow(1, 0, 9), arrow(6, 0, -9));
        due("4 held rows are free", x.begin(), 0);
    }

    private void size() {
        // The least whole ones: 6 : 4 : 3, and a group of its own.
        SeedBench x = begun(4, 0, arrow(0, 1, 2, -3), arrow(1, 2, -3, 4));
        due("5 size(0)", x.size(0), 6);
        due("5 size(1)", x.size(1), 4);
        due("5 size(2)", x.size(2), 3);
        due("5 size(3)", x.size(3), 1);
        due("5 size(4)", x.size(4), 0);
        due("5 size(-1)", x.size(-1), 0);
        due("5 size(MIN)", x.size(MIN), 0);
        due("5 turns", x.turn(1), 2);
        due("5 sizes stay", x.size(0), 6);
        x = begun(6, 0, arrow(0, 1, 9, -1), arrow(1, 2, 9, -1), arrow(2, 3, 9, -1), arrow(3, 4, 9, -1),
                arrow(4, 5, 9, -1));
        due("5 great sizes", x.size(5), 59049);
        due("5 great sizes", x.size(0), 1);
        x = begun(2, 0, arrow(0, 1, 6, -4));
        due("5 not 6 : 4", x.size(0), 2);
        due("5 not 6 : 4", x.size(1), 3);
    }

    private void turn() {
        SeedBench x = begun(2, 2, arrow(0, 1, 1, -1), arrow(2, 0, 1), arrow(3, 0, -2), arrow(3, 1, 1));
        due("6 turn(-1)", x.turn(-1), NONE);
        due("6 turn(2)", x.turn(2), NONE);
        due("6 turn(MAX)", x.turn(MAX), NONE);
        // (y0 + x1 y1^2) / x0
        due("6 turn(0)", x.turn(0), 2);
        due("10 first term", x.term(0, 0, 0), -1);
        due("10 first term", x.term(0, 0, 1), 1);
        due("10 first term", x.term(0, 0, 2), 0);
        due("10 first term", x.term(0, 0, 3), 2);
        due("10 second term", x.term(0, 1, 1), 0);
        due("10 second term", x.term(0, 1, 2), 1);
        due("8 b(0, 1)", x.b(0, 1), -1);
        due("8 b(1, 0)", x.b(1, 0), 1);
        due("8 b(2, 0)", x.b(2, 0), -1);
        due("8 b(2, 1)", x.b(2, 1), 1);
        due("8 b(3, 0)", x.b(3, 0), 2);
        due("8 b(3, 1)", x.b(3, 1), 1);
        due("6 the same again", x.turn(0), 1);
        due("10 x0", x.term(0, 0, 0), 1);
        due("8 as at first", x.b(3, 0), -2);
    }

    private void turnIsSpent() {
        // Products of 100 terms each: (L1 L2)^9 and (L3 L4)^9, 200 in all.
        SeedBench x = begun(6, 5, star(9, 9, -9, -9, 0));
        turnAll(x, 1, 2, 3, 4);
        due("6 200 terms", x.turn(0), 200);
        due("9 200 terms", x.terms(0), 200);
        // 200 and 1.
        x = begun(6, 5, star(9, 9, 1, 0, 0));
        turnAll(x, 1, 2, 3);
        int turns = x.count(2);
        due("6 201 terms", x.turn(0), -2);
        due("6 nothing is turned", x.terms(0), 1);
        due("6 nothing is turned", Math.abs(x.b(1, 0)), 9);
        due("6 nothing is turned", x.count(2), turns);
        // (y + x5) to the 42nd, whose greatest number is 538257874440, and to the 43rd.
        due("6 great numbers", powers(9, 9, 9, 9, 6).turn(0), 44);
        due("6 too great numbers", powers(9, 9, 9, 9, 7).turn(0), -2);
        tableIsSpent();
        x = begun(2, 0, arrow(0, 1, 9, -9));
        due("6 turn(0)", x.turn(0), 2);
        due("6 turn(1)", x.turn(1), 11);
        due("6 turn(0)", x.turn(0), -2);
        due("6 turn(1)", x.turn(1), 1);
    }

    /** Shares stay small here: it is the table alone that comes to 9999, and to 10000. */
    private void tableIsSpent() {
        SeedBench x = begun(5, 1, arrow(1, 0, 1, -8), arrow(2, 0, -9, 1), arrow(3, 2, -6, 1), arrow(4, 3, -4, 1),
                arrow(5, 0, 2), arrow(5, 1, 9), arrow(5, 2, -3), arrow(5, 3, -7), arrow(5, 4, -4));
        for (int k : new int[] {4, 0, 3, 2}) {
            due("6 turn", x.turn(k) > 0, true);
        }
        int most = 0;
        for (int j = 0; j < 5; j++) {
            most = Math.max(most, Math.abs(x.b(5, j)));
        }
        due("8 the greatest of the table", most, 9999);
        x = begun(5, 1, arrow(1, 0, 7, -1), arrow(2, 1, 9, -1), arrow(3, 2, 9, -1), arrow(4, 3, 1, -2),
                arrow(5, 0, -3), arrow(5, 1, 7), arrow(5, 2, 5), arrow(5, 3, 8), arrow(5, 4, 9));
        for (int k : new int[] {1, 2, 4}) {
            due("6 turn", x.turn(k) > 0, true);
        }
        due("6 10000 in the table", x.turn(3), -2);
        due("6 nothing is turned", x.terms(3), 1);
        due("6 nothing is turned", x.count(2), 3);
    }

    /** Place 0 amid the others, with a held one of its own for each of these. */
    private int[][] star(int... weights) {
        int[][] arrows = new int[10][];
        for (int i = 1; i <= 5; i++) {
            int w = weights[i - 1];
            arrows[2 * i - 2] = arrow(i, 0, w, -Integer.signum(w));
            arrows[2 * i - 1] = arrow(5 + i, i, -Integer.signum(w));
        }
        return arrows;
    }

    /** Places 1 to 5 turned to (x0 + y) / xi, which place 0 has so many times. */
    private SeedBench powers(int... weights) {
        int[][] arrows = new int[10][];
        for (int i = 1; i <= 5; i++) {
            arrows[2 * i - 2] = arrow(i, 0, weights[i - 1], -1);
            arrows[2 * i - 1] = arrow(6, i, 1);
        }
        SeedBench x = begun(6, 1, arrows);
        turnAll(x, 1, 2, 3, 4, 5);
        return x;
    }

    private void turnAll(SeedBench x, int... places) {
        for (int k : places) {
            due("turn", x.turn(k), 2);
        }
    }

    private void manyTurns() {
        SeedBench x = chain(2);
        for (int t = 0; t < 100; t++) {
            due("6 turn", x.turn(t % 2) > 0, true);
        }
        due("30 count(2)", x.count(2), 100);
        due("6 100 turns", x.turn(0), -3);
        due("6 no place", x.turn(2), NONE);
        due("6 the seed stays", x.count(2), 100);
        due("7 back()", x.back(), true);
        due("6 one more", x.turn(1) > 0, true);
        due("6 100 turns", x.turn(1), -3);
        for (int t = 0; t < 100; t++) {
            due("7 back()", x.back(), true);
        }
        due("7 none is done", x.back(), false);
        due("7 as at first", x.term(0, 0, 0), 1);
        due("7 as at first", x.term(1, 0, 1), 1);
        due("7 as at first", x.b(0, 1), 1);
        due("4 begin()", x.begin(), 0);
        due("6 turn", x.turn(0), 2);
    }

    private void back() {
        SeedBench x = begun(3, 1, arrow(0, 1, 2, -2), arrow(1, 2, 1, -1), arrow(3, 1, 3));
        due("13 keep", x.keep(0), true);
        int[] places = {1, 0, 2, 1, 0};
        for (int k : places) {
            x.turn(k);
        }
        int done = x.count(2);
        due("6 some are done", done > 2, true);
        for (int t = 0; t < done; t++) {
            due("7 back()", x.back(), true);
        }
        due("7 back() too often", x.back(), false);
        due("7 as at first", x.same(0), 1);
        due("7 as at first", x.b(3, 1), 3);
        due("7 as at first", x.term(2, 0, 2), 1);
    }

    private void tableOfSeed() {
        SeedBench x = begun(2, 1, arrow(0, 1, 3, -2), arrow(2, 0, 4), arrow(2, 1, -5));
        due("8 b", x.b(0, 1), 3);
        due("8 b", x.b(1, 0), -2);
        due("8 b", x.b(2, 0), 4);
        due("8 b", x.b(2, 1), -5);
        due("8 none such", x.b(3, 0), 0);
        due("8 none such", x.b(0, 2), 0);
        due("8 none such", x.b(-1, 0), 0);
        due("8 none such", x.b(0, -1), 0);
        due("8 none such", x.b(MIN, MAX), 0);
        due("6 turn", x.turn(0), 2);
        due("8 -5 + 4 * 3", x.b(2, 1), 7);
    }

    private void letters() {
        SeedBench x = begun(2, 0, arrow(0, 1, 2, -2));
        due("6 turn", x.turn(0), 2);
        due("6 turn", x.turn(1), 4);
        due("9 terms", x.terms(1), 4);
        due("9 none such", x.terms(2), 0);
        due("9 none such", x.terms(-1), 0);
        due("9 none such", x.terms(MAX), 0);
        // x0^-2 x1^3 + 2 x0^-2 x1 + x0^-2 x1^-1 + x1^-1, the greater powers of x0 first.
        long[][] want = {{1, 0, -1}, {1, -2, 3}, {2, -2, 1}, {1, -2, -1}};
        for (int t = 0; t < 4; t++) {
            for (int v = -1; v < 2; v++) {
                due("10 term(1, " + t + ", " + v + ")", x.term(1, t, v), want[t][v + 1]);
            }
        }
        due("10 none such", x.term(1, 4, NONE), 0);
        due("10 none such", x.term(1, -1, NONE), 0);
        due("10 none such", x.term(2, 0, NONE), 0);
        due("10 none such", x.term(-1, 0, NONE), 0);
        due("10 none such", x.term(1, 0, 2), 0);
        due("10 none such", x.term(1, 1, -2), 0);
        due("10 none such", x.term(1, MIN, MAX), 0);
        due("11 least(1, 0)", x.least(1, 0), -2);
        due("11 least(1, 1)", x.least(1, 1), -1);
        due("11 none such", x.least(1, 2), 0);
        due("11 none such", x.least(1, -1), 0);
        due("11 none such", x.least(2, 0), 0);
        due("11 none such", x.least(MIN, MIN), 0);
        due("12 ones(1)", x.ones(1), 5);
        due("12 none such", x.ones(2), 0);
        due("12 none such", x.ones(-1), 0);
        due("11 begin()", x.begin(), 0);
        due("11 a first letter", x.least(0, 0), 1);
        due("11 a first letter", x.least(0, 1), 0);
        // Powers of held ones are told too, and those are no letters.
        x = begun(1, 2, arrow(1, 0, 3), arrow(2, 0, -2));
        due("6 turn", x.turn(0), 2);
        due("10 held", x.term(0, 0, 1), 3);
        due("10 held", x.term(0, 1, 2), 2);
        due("11 held", x.least(0, 2), 0);
        due("9 held ones are no letters", x.terms(1), 0);
        due("12 held ones are no letters", x.ones(2), 0);
    }

    private void keepAndSame() {
        SeedBench x = chain(2);
        due("13 keep(4)", x.keep(4), false);
        due("13 keep(-1)", x.keep(-1), false);
        due("13 keep(MIN)", x.keep(MIN), false);
        due("14 nothing kept", x.same(3), NONE);
        due("13 keep(3)", x.keep(3), true);
        due("14 same(3)", x.same(3), 1);
        due("14 same(2)", x.same(2), NONE);
        due("14 same(4)", x.same(4), NONE);
        due("14 same(-1)", x.same(-1), NONE);
        due("6 turn", x.turn(0), 2);
        due("14 another", x.same(3), 0);
        for (int k : new int[] {1, 0, 1, 0}) {
            x.turn(k);
        }
        due("14 the same in another order", x.same(3), 1);
        due("14 letters changed places", x.term(0, 0, 1), 1);
        due("13 keep over", x.keep(3), true);
        due("14 same(3)", x.same(3), 1);
        // Letters alike, but not the table.
        tell(x, 2, 0, arrow(0, 1, 2, -2));
        due("4 begin()", x.begin(), 0);
        due("14 another table", x.same(3), 0);
        due("13 keep(0)", x.keep(0), true);
        tell(x, 2, 0, arrow(0, 1, -2, 2));
        due("4 begin()", x.begin(), 0);
        due("14 arrows the other way", x.same(0), 0);
        tell(x, 2, 1, arrow(0, 1, 2, -2));
        due("4 begin()", x.begin(), 0);
        due("14 other m", x.same(0), 0);
        due("13 keep(1)", x.keep(1), true);
        tell(x, 2, 1, arrow(0, 1, 2, -2), arrow(2, 0, 1));
        due("4 begin()", x.begin(), 0);
        due("14 another held row", x.same(1), 0);
        tell(x, 3, 0);
        due("4 begin()", x.begin(), 0);
        due("14 other n", x.same(0), 0);
    }

    private void all() {
        due("15 A1", chain(1).all(), 2);
        due("15 A2", chain(2).all(), 5);
        due("15 A3", chain(3).all(), 14);
        due("15 A4", chain(4).all(), 42);
        SeedBench x = chain(5);
        due("15 A5", x.all(), 132);
        due("16 its letters", x.what(0, 0), 20);
        due("30 count(4)", x.count(4), 132);
        tell(x, 6, 0, arrow(0, 1, 1, -1), arrow(1, 2, 1, -1), arrow(2, 3, 1, -1), arrow(3, 4, 1, -1),
                arrow(4, 5, 1, -1));
        due("4 begin()", x.begin(), 0);
        due("15 A6 has 429", x.all(), -2);
        due("30 count(4) behind -2", x.count(4), 0);
        due("16 the latest that was not -2", x.what(0, 0), 20);
        due("15 B3", begun(3, 0, arrow(0, 1, 1, -1), arrow(1, 2, 1, -2)).all(), 20);
        due("15 C3", begun(3, 0, arrow(0, 1, 1, -1), arrow(1, 2, 2, -1)).all(), 20);
        due("15 D4", begun(4, 0, arrow(0, 1, 1, -1), arrow(0, 2, 1, -1), arrow(0, 3, -1, 1)).all(), 50);
        x = begun(4, 0, arrow(0, 1, 1, -1), arrow(1, 2, 1, -1), arrow(2, 3, 2, -1));
        due("15 C4", x.all(), 70);
        due("16 its letters", x.what(MIN, 0), 20);
        // It has 105, but a letter on the way has too many terms.
        due("15 F4", begun(4, 0, arrow(0, 1, 1, -1), arrow(1, 2, 2, -1), arrow(2, 3, 1, -1)).all(), -2);
        due("15 A2 A2 A2", begun(6, 0, arrow(0, 1, 1, -1), arrow(2, 3, 1, -1), arrow(4, 5, 1, -1)).all(), 125);
        due("15 B2 A2 A2, as many as may be", begun(6, 0, arrow(0, 1, 2, -1), arrow(2, 3, 1, -1),
                arrow(4, 5, 1, -1)).all(), 150);
        due("15 G2 B3 has 160", begun(5, 0, arrow(0, 1, 3, -1), arrow(2, 3, 1, -1), arrow(3, 4, 1, -2)).all(), -2);
        due("15 apart", begun(6, 0).all(), 64);
        due("15 D5 has 182", begun(5, 0, arrow(0, 1, 1, -1), arrow(1, 2, 1, -1), arrow(2, 3, 1, -1),
                arrow(2, 4, 1, -1)).all(), -2);
        due("15 never ends", begun(2, 0, arrow(0, 1, 2, -2)).all(), -2);
        due("15 a circle", begun(3, 0, arrow(0, 1, 1, -1), arrow(1, 2, 1, -1), arrow(2, 0, 1, -1)).all(), 14);
        allTold();
    }

    private void allTold() {
        SeedBench x = begun(2, 1, arrow(0, 1, 1, -1), arrow(2, 0, 1));
        due("6 turn", x.turn(1), 2);
        due("15 all()", x.all(), 5);
        due("15 the seed stays", x.count(2), 1);
        due("15 the seed stays", x.terms(1), 2);
        due("16 letters", x.what(0, 0), 5);
        // First those of the seed at hand: x0, (x0 + 1) / x1.
        due("16 what(0, 1)", x.what(0, 1), 1);
        due("16 what(0, 10)", x.what(0, 10), 1);
        due("16 what(1, 1)", x.what(1, 1), 2);
        due("16 what(1, 2)", x.what(1, 2), 2);
        due("16 what(1, 11)", x.what(1, 11), -1);
        due("16 what(1, 12)", x.what(1, 12), 0);
        // Then by a turn at 0: (x0 y + y + x1) / (x0 x1); at 1: x1.
        due("16 what(2, 2)", x.what(2, 2), 3);
        due("16 what(2, 10)", x.what(2, 10), -1);
        due("16 what(2, 12)", x.what(2, 12), 0);
        due("16 what(3, 11)", x.what(3, 11), 1);
        due("16 no letter", x.what(5, 1), NONE);
        due("16 no letter", x.what(-1, 1), NONE);
        due("16 no variable", x.what(3, 13), NONE);
        for (int w : new int[] {-1, 3, 9, MIN, MIN + 9, MAX}) {
            due("16 what " + w, x.what(3, w), NONE);
        }
        tell(x, 1, 0);
        due("4 begin()", x.begin(), 0);
        due("16 of the latest all()", x.what(0, 0), 5);
        due("30 count(4)", x.count(4), 5);
        due("15 all()", x.all(), 2);
        due("16 letters", x.what(0, 0), 2);
        due("16 no letter any more", x.what(2, 1), NONE);
    }

    private void finite() {
        SeedBench x = chain(2);
        due("17 A2", x.finite(), 1);
        due("19 A2", x.tables(), 2);
        due("18 no steps", x.step(0), NONE);
        x = chain(3);
        due("17 A3", x.finite(), 1);
        due("19 tables() A3", x.tables(), 14);
        tell(x, 3, 0, arrow(0, 1, 1, -1), arrow(1, 2, 1, -1), arrow(2, 0, -1, 1));
        due("4 begin()", x.begin(), 0);
        // A turn at 0 or 2 gives no double arrow, one at 1 does; the third table that comes.
        due("17 a circle with a turned arrow", x.finite(), 0);
        due("18 step(0)", x.step(0), 1);
        due("18 step(1)", x.step(1), NONE);
        due("18 step(-1)", x.step(-1), NONE);
        due("18 step(MAX)", x.step(MAX), NONE);
        due("19 tables()", x.tables(), 3);
        tell(x, 2, 0, arrow(0, 1, 4, -1));
        due("4 begin()", x.begin(), 0);
        due("17 -4 at once", x.finite(), 0);
        due("18 no steps", x.step(0), NONE);
        due("19 tables()", x.tables(), 1);
        tell(x, 2, 0, arrow(0, 1, 3, -1));
        due("4 begin()", x.begin(), 0);
        due("17 -3 is finite", x.finite(), 1);
        due("19 tables()", x.tables(), 2);
        // Held rows don't count.
        tell(x, 1, 1, arrow(1, 0, 9));
        due("4 begin()", x.begin(), 0);
        due("17 held rows", x.finite(), 1);
        due("19 held rows", x.tables(), 1);
        x = chain(6);
        due("17 A6", x.finite(), -2);
        due("19 A6", x.tables(), 3000);
        due("18 no steps", x.step(0), NONE);
        due("17 the seed stays", x.count(2), 0);
        due("17 the seed stays", x.b(0, 1), 1);
    }

    private void rowAndOrder() {
        SeedBench x = chain(2);
        int[][] wrong = {{0, 0, 0}, {13, 0, 0}, {2, 2, 0}, {2, -1, 0}, {2, 0, 6}, {2, 0, -1}, {MAX, MIN, 0}};
        for (int[] w : wrong) {
            due("20 wrong", x.row(w[0], w[1], w[2]), false);
        }
        due("21 no row", x.order(), NONE);
        due("20 row", x.row(2, 1, 1), true);
        due("21 A2", x.order(), 5);
        due("20 wrong: nothing happens", x.row(3, 3, 0), false);
        due("21 A2", x.order(), 5);
        due("20 another n: all 0", x.row(12, 11, 1), true);
        // 0 eleven times and 1 is 0 and 1.
        due("21 order()", x.order(), 5);
        due("20 a place that is not there", x.row(12, 0, 5), true);
        due("21 a place that is not there", x.order(), NONE);
        due("20 anew", x.row(1, 0, 0), true);
        due("21 twice", x.order(), 2);
        due("20 anew", x.row(2, 0, 0), true);
        due("21 0, 0 once", x.order(), 1);
        due("21 the seed stays", x.count(2), 0);
        due("21 the seed stays", x.term(0, 0, 0), 1);
        tell(x, 3, 0, arrow(0, 1, 1, -1), arrow(1, 2, -1, 1));
        due("4 begin()", x.begin(), 0);
        due("20 row", x.row(3, 0, 0), true);
        due("20 row", x.row(3, 1, 2), true);
        due("20 row", x.row(3, 2, 1), true);
        due("21 A3", x.order(), 3);
        tell(x, 2, 0, arrow(0, 1, 2, -2));
        due("4 begin()", x.begin(), 0);
        due("20 row", x.row(2, 1, 1), true);
        due("21 spent", x.order(), -2);
        due("21 the seed stays", x.terms(0), 1);
        tell(x, 2, 0, arrow(0, 1, 1, -3));
        due("4 begin()", x.begin(), 0);
        due("21 G2", x.order(), 4);
        x = begun(4, 0, arrow(1, 0, 1, -1), arrow(2, 1, 1, -1), arrow(3, 2, 2, -1));
        tellRow(x, 3, 2, 0, 1);
        due("21 40 times", x.order(), 40);
        x = begun(4, 0, arrow(1, 0, -1, 1), arrow(2, 1, 1, -1), arrow(3, 2, -1, 1));
        tellRow(x, 0, 2, 0, 1, 3, 0);
        due("21 it would be 41 times", x.order(), -2);
    }

    private void ringAndFence() {
        SeedBench x = new SeedBench();
        int[][] wrong = {{-1, 5}, {2, 5}, {0, 3}, {1, 11}, {MIN, 5}, {0, MAX}};
        for (int[] w : wrong) {
            due("22 wrong", x.ring(w[0], w[1]), false);
        }
        due("22 ring", x.ring(1, 10), true);
        due("22 the other slot stays", x.ringOf(0, 0), 4);
        due("22 corners", x.ringOf(1, 0), 10);
        due("23 fence", x.fence(1, 2, 7), 1);
        due("23 either way", x.fence(1, 5, 2), 2);
        int[][] bad = {{2, 7}, {7, 2}, {0, 9}, {9, 0}, {3, 4}, {4, 3}, {3, 3}, {0, 10}, {-1, 3}, {3, 8}, {8, 3},
            {6, 4}, {MIN, MAX}};
        for (int[] w : bad) {
            due("23 no fence " + w[0] + ", " + w[1], x.fence(1, w[0], w[1]), NONE);
        }
        due("23 no slot", x.fence(2, 0, 5), NONE);
        due("23 no slot", x.fence(-1, 0, 5), NONE);
        due("23 nothing happened", x.ringOf(1, 1), 2);
        due("23 from a same corner", x.fence(1, 7, 5), 3);
        due("22 without fences", x.ring(1, 6), true);
        due("22 without fences", x.ringOf(1, 1), 0);
        due("23 full", cut(4, 2).fence(0, 1, 3), NONE);
    }

    private void flip() {
        SeedBench x = cut(4, 2);
        due("24 flip", x.flip(0, 2, 0), 103);
        due("24 it is there no more", x.flip(0, 0, 2), NONE);
        due("24 flip", x.flip(0, 1, 3), 2);
        x = cut(6, 2, 3);
        due("24 no cutting", x.flip(0, 0, 2), NONE);
        due("23 fence", x.fence(0, 0, 4), 3);
        due("24 no such fence", x.flip(0, 1, 3), NONE);
        due("24 neighbours", x.flip(0, 0, 1), NONE);
        due("24 one corner", x.flip(0, 2, 2), NONE);
        due("24 no such corners", x.flip(0, 0, 6), NONE);
        due("24 no such corners", x.flip(0, MIN, MAX), NONE);
        due("24 no slot", x.flip(2, 0, 2), NONE);
        due("24 the other slot", x.flip(1, 0, 2), NONE);
        due("24 flip", x.flip(0, 0, 3), 204);
        due("24 flip", x.flip(0, 0, 2), 104);
        due("25 fences", x.ringOf(0, 100), 4);
        due("25 fences", x.ringOf(0, 101), 104);
        due("25 fences", x.ringOf(0, 102), 204);
        for (int b = 6; b < 60; b++) {
            due("24 no such corners", x.flip(0, 0, b), NONE);
            due("24 no such corners", x.flip(0, b, 0), NONE);
        }
        due("24 flip", x.flip(0, 0, 4), 105);
        due("25 a cutting", x.ringOf(0, 2), 1);
    }

    private void ringOf() {
        SeedBench x = cut(10, 207, 205, 507, 709);
        due("25 corners", x.ringOf(0, 0), 10);
        due("25 fences", x.ringOf(0, 1), 4);
        due("25 no cutting", x.ringOf(0, 2), 0);
        int[] thirds = {1, 1, 3, 1, 1, 3, 1, 4, 1, 2};
        for (int c = 0; c < 10; c++) {
            due("25 thirds of " + c, x.ringOf(0, 10 + c), thirds[c]);
        }
        int[] order = {205, 207, 507, 709, NONE};
        for (int i = 0; i < 5; i++) {
            due("25 fence " + i, x.ringOf(0, 100 + i), order[i]);
        }
        for (int w : new int[] {-1, 3, 9, 20, 99, 107, 1000, MIN, MAX}) {
            due("25 what " + w, x.ringOf(0, w), NONE);
        }
        due("25 corners of four", x.ringOf(1, 14), NONE);
        due("25 no slot", x.ringOf(2, 0), NONE);
        due("25 no slot", x.ringOf(-1, 0), NONE);
    }

    private void frieze() {
        SeedBench x = cut(5, 2);
        due("26 no cutting", x.frieze(0, 0, 1), 0);
        due("23 fence", x.fence(0, 0, 3), 2);
        // Thirds 3, 1, 2, 2, 1.
        long[][] rows = {{0, 1, 1, 1, 1, 0}, {0, 1, 2, 3, 1, 0}, {0, 1, 2, 1, 1, 0}, {0, 1, 1, 2, 1, 0},
            {0, 1, 3, 2, 1, 0}};
        for (int i = 0; i < 5; i++) {
            for (int d = 0; d < 6; d++) {
                due("26 f(" + i + ", " + (i + d) + ")", x.frieze(0, i, i + d), rows[i][d]);
            }
            due("26 none such", x.frieze(0, i, i - 1), 0);
            due("26 none such", x.frieze(0, i, i + 6), 0);
        }
        due("26 none such", x.frieze(0, 5, 6), 0);
        due("26 none such", x.frieze(0, -1, 0), 0);
        due("26 none such", x.frieze(0, MIN, MAX), 0);
        due("26 none such", x.frieze(0, 4, MIN), 0);
        due("26 no slot", x.frieze(2, 0, 1), 0);
        due("26 the other slot", x.frieze(1, 0, 1), 0);
        // A zigzag has every second number of Fibonacci's, and numbers the other way are the same.
        x = cut(10, 109, 209, 208, 308, 307, 407, 406);
        due("26 f(0, 5)", x.frieze(0, 0, 5), 34);
        due("26 f(5, 10)", x.frieze(0, 5, 10), 34);
        due("26 f(1, 5)", x.frieze(0, 1, 5), 21);
        due("26 f(5, 11)", x.frieze(0, 5, 11), 21);
    }

    private void way() {
        SeedBench x = cut(6, 2, 3, 4);
        due("27 one is none", x.way(), NONE);
        cut(x, 1, 7, 2, 3, 4, 5);
        due("27 not of as many corners", x.way(), NONE);
        cut(x, 1, 6, 2, 3, 4);
        due("27 no flips", x.way(), 0);
        due("28 none goes", x.goes(0), NONE);
        // From a fan at 0 to the triangle 1, 3, 5: 02 and 04 must go and 03, at least.
        cut(x, 1, 6, 103, 305, 105);
        due("27 way", x.way(), 3);
        due("28 goes(0)", x.goes(0), 2);
        due("28 goes(1)", x.goes(1), 4);
        due("28 goes(2)", x.goes(2), 3);
        due("28 goes(3)", x.goes(3), NONE);
        due("28 goes(-1)", x.goes(-1), NONE);
        due("28 goes(MIN)", x.goes(MIN), NONE);
        due("27 the rings stay", x.ringOf(0, 100), 2);
        due("22 ring", x.ring(1, 6), true);
        due("27 none", x.way(), NONE);
        due("28 of the latest that was not NONE", x.goes(1), 4);
        // From a fan to a fan at its neighbour each fence goes once.
        x = cut(10, 2, 3, 4, 5, 6, 7, 8);
        cut(x, 1, 10, 103, 104, 105, 106, 107, 108, 109);
        due("27 fans", x.way(), 7);
        for (int i = 0; i < 7; i++) {
            due("28 fans", x.goes(i), 2 + i);
        }
    }

    private void seedOfCutting() {
        SeedBench x = cut(6, 2, 3);
        due("29 no cutting", x.seed(0), false);
        due("29 no slot", x.seed(2), false);
        due("29 no slot", x.seed(-1), false);
        due("29 nothing happens", x.begin(), NONE);
        due("23 fence", x.fence(0, 0, 4), 3);
        due("29 seed", x.seed(0), true);
        due("30 places", x.count(0), 3);
        due("30 held", x.count(1), 0);
        // The third 0, 2, 3: from (2, 3), no fence, to (0, 3) to (0, 2).
        due("8 b(1, 0)", x.b(1, 0), 1);
        due("8 b(0, 1)", x.b(0, 1), -1);
        due("8 b(2, 1)", x.b(2, 1), 1);
        due("8 b(0, 2)", x.b(0, 2), 0);
        due("5 size", x.size(2), 1);
        due("15 all()", x.all(), 14);
        due("6 turn", x.turn(1), 2);
        due("29 its table is told", x.begin(), 0);
        due("29 its table is told", x.b(1, 0), 1);
        due("29 its table is told", x.arrows(0, 2, 1), true);
        due("29 its table is told", x.begin(), 2);
        cut(x, 1, 6, 2, 4, 204);
        due("29 seed", x.seed(1), true);
        // Fences 02, 04, 24: from 02 to 24, from 24 to 04, from 04 to 02.
        due("8 a circle", x.b(0, 2), 1);
        due("8 a circle", x.b(2, 1), 1);
        due("8 a circle", x.b(1, 0), 1);
        due("30 nothing was turned", x.count(2), 0);
        // A turn at a fence's place and a flip of it go together: (02 becomes (04 + 24) / 02).
        due("6 turn", x.turn(0), 2);
        due("24 flip", x.flip(1, 0, 2), 104);
        cut(x, 0, 9, 2, 3, 4, 5, 6, 7);
        due("29 nine corners", x.seed(0), true);
        due("30 places", x.count(0), 6);
        cut(x, 0, 10, 2, 3, 4, 5, 6, 7, 8);
        due("29 ten corners", x.seed(0), false);
        due("29 nothing happens", x.count(0), 6);
        due("29 the told table stays", x.begin(), 0);
        due("29 the told table stays", x.count(0), 6);
        cut(x, 0, 4, 103);
        due("29 four corners", x.seed(0), true);
        due("30 places", x.count(0), 1);
        due("8 b(0, 0)", x.b(0, 0), 0);
    }

    private void count() {
        SeedBench x = begun(3, 2, arrow(0, 1, 1, -1));
        due("30 count(0)", x.count(0), 3);
        due("30 count(1)", x.count(1), 2);
        due("6 turn", x.turn(0), 2);
        due("30 count(2)", x.count(2), 1);
        due("30 count(3)", x.count(3), 4);
        due("30 count(4)", x.count(4), 0);
        for (int w : new int[] {-1, 5, MIN, MAX}) {
            due("30 count(" + w + ")", x.count(w), NONE);
        }
        due("15 all()", x.all(), 10);
        due("30 count(4)", x.count(4), 10);
    }
}
