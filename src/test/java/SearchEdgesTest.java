import java.util.function.Consumer;

/**
 * The bounds that part II of the document names, promises 15 to 21 and 30: the last inputs on either side of each, what
 * is answered there, and that nothing happens where the document says so.
 */
public final class SearchEdgesTest extends Bench {
    private static final int[] E01 = {0, 1, 1, -1};
    private static final int[] E12 = {1, 2, 1, -1};
    private static final int[] E23 = {2, 3, 1, -1};
    private static final int[] E34 = {3, 4, 1, -1};
    private static final int[] E45 = {4, 5, 1, -1};

    private final Twins twins = new Twins(check);

    public static void main(String[] args) {
        SearchEdgesTest test = new SearchEdgesTest();
        test.mostSeeds();
        test.tooManySeeds();
        test.allBehindOthers();
        test.seedStaysAtAll();
        test.lettersInOrder();
        test.aheadOfAnyAll();
        test.latestAll();
        test.noSuchWhat();
        test.threeAndFour();
        test.firstAsTheyCome();
        test.stepsLeadThere();
        test.mostTables();
        test.tooManyTables();
        test.heldRowsDontCount();
        test.seedStaysAtFinite();
        test.noSuchStep();
        test.latestFinite();
        test.rowsOfTurns();
        test.noSuchRow();
        test.newRow();
        test.noRow();
        test.placesThatTheSeedHasNot();
        test.fortyTimes();
        test.seedStaysAtOrder();
        test.noSuchCount();
        test.counts();
        test.check.end();
    }

    private void neverHappens(String name, Consumer<SeedBench> refused) {
        twins.nothingHappens(name + " (new)", x -> { }, refused);
        twins.nothingHappens(name + " (busy)", this::busy, refused);
    }

    // ---- promise 15

    private void all(String name, SeedBench x, int seeds, int letters) {
        due("15 " + name, x.all(), seeds);
        due("16 letters of " + name, x.what(0, 0), letters);
        due("30 seeds of " + name, x.count(4), Math.max(seeds, 0));
        due("15 again: " + name, x.all(), seeds);
    }

    /** 15: up to 150 SEEDS. */
    private void mostSeeds() {
        all("a new object", new SeedBench(), 2, 2);
        all("one place with held ones", begun(1, 6, arrow(6, 0, 9)), 2, 2);
        all("six apart", begun(6, 0), 64, 12);
        all("A5", chain(5), 132, 20);
        all("B4 A1", begun(5, 0, E01, E12, arrow(2, 3, 2, -1)), 140, 22);
        all("A3 A2 A1", begun(6, 0, E01, E12, E34), 140, 16);
        all("B2 B2 A1 A1", begun(6, 0, arrow(0, 1, 2, -1), arrow(2, 3, 1, -2)), 144, 16);
        all("B2 A2 A2", begun(6, 0, arrow(0, 1, 2, -1), E23, E45), 150, 16);
        all("A2 A2 B2", begun(6, 6, E01, E23, arrow(4, 5, 1, -2), arrow(6, 0, 1)), 150, 16);
    }

    /** 15: more than 150 SEEDS: -2. */
    private void tooManySeeds() {
        all("A2 G2 A1 A1 has 160", begun(6, 0, E01, arrow(2, 3, 3, -1)), SPENT, NONE);
        all("B3 A1 A1 A1 has 160", begun(6, 0, E01, arrow(1, 2, 2, -1)), SPENT, NONE);
        all("A4 A1 A1 has 168", begun(6, 0, E01, E12, E23), SPENT, NONE);
        all("A2 B2 B2 has 180", begun(6, 0, E01, arrow(2, 3, 2, -1), arrow(4, 5, 1, -2)), SPENT, NONE);
        all("D5 has 182", begun(5, 0, E01, E12, E23, arrow(2, 4, 1, -1)), SPENT, NONE);
        all("A6 has 429", chain(6), SPENT, NONE);
        all("two arrows never end", begun(2, 0, arrow(0, 1, 2, -2)), SPENT, NONE);
        all("nine arrows never end", begun(2, 6, arrow(0, 1, -9, 9)), SPENT, NONE);
    }

    /** 15: an all() ahead, of more or of fewer SEEDS, done or SPENT, makes no difference. */
    private void allBehindOthers() {
        SeedBench x = new SeedBench();
        for (int kind : new int[] {2, 3, 6, 4, 1, 5, 3, 6, 2, 5, 4, 3, 2, 1, 3}) {
            int[][] chain = new int[kind - 1][];
            for (int i = 1; i < kind; i++) {
                chain[i - 1] = arrow(i, i - 1, -1, 1);
            }
            begin(x, kind, 0, chain);
            int[] seeds = {0, 2, 5, 14, 42, 132, SPENT};
            due("15 A" + kind, x.all(), seeds[kind]);
            due("30 A" + kind, x.count(4), Math.max(seeds[kind], 0));
        }
        begin(x, 2, 0, arrow(0, 1, 3, -1));
        due("15 G2", x.all(), 8);
        begin(x, 2, 0);
        due("15 two apart", x.all(), 4);
    }

    /** 15: the SEED stays; so does all else, but what the latest all() tells. */
    private void seedStaysAtAll() {
        Twins.View[] rest = {Twins.SEED, Twins.TOLD, Twins.UNDONE, Twins.TURNED, Twins.KEPT, Twins.ROW, Twins.RINGS,
            Twins.FENCES, Twins.WAY};
        twins.stays("15 all()", this::busy, x -> due("15 all()", x.all(), 14), rest);
        twins.stays("15 all(), spent", x -> {
            busy(x);
            begin(x, 6, 0, E01, E12, E23, E34, E45);
            turns(x, 3, 2);
        }, x -> due("15 all()", x.all(), SPENT), rest);
    }

    /** 15, 16: each TURNED at PLACES 0, 1, ..; LETTERS that were in no SEED ahead (by PLACES). */
    private void lettersInOrder() {
        SeedBench x = begun(6, 6);
        turns(x, 2);
        due("15 all()", x.all(), 64);
        for (int i = 0; i < 12; i++) {
            due("16 terms of letter " + i, x.what(i, 1), 1);
            // First those at hand, 2 / x2 among them, then what a turn at each of its places brings.
            due("16 sum of letter " + i, x.what(i, 2), i == 2 || i > 5 && i != 8 ? 2 : 1);
            for (int v = 0; v < 12; v++) {
                int power = v != i % 6 ? 0 : i == 2 || i > 5 && i != 8 ? -1 : 1;
                due("16 letter " + i + ", variable " + v, x.what(i, 10 + v), power);
            }
        }
    }

    // ---- promise 16

    /** 16: NONE ahead of any; an all() that is -2 is none. */
    private void aheadOfAnyAll() {
        neverHappens("16 others", x -> {
            for (int i : outside(0, 11)) {
                due("16 what(" + i + ", 1)", x.what(i, 1), NONE);
                due("16 what(" + i + ", 2)", x.what(i, 2), NONE);
                due("16 what(" + i + ", 10)", x.what(i, 10), NONE);
            }
        });
        Consumer<SeedBench> none = x -> {
            due("30 count(4)", x.count(4), 0);
            for (int what : new int[] {0, 1, 2, 3, 9, 10, 11, 21, 22, -1, MIN, MAX}) {
                due("16 what(0, " + what + ")", x.what(0, what), NONE);
                due("16 what(1, " + what + ")", x.what(1, what), NONE);
                due("16 what(-1, " + what + ")", x.what(-1, what), NONE);
                due("16 what(MAX, " + what + ")", x.what(MAX, what), NONE);
            }
        };
        none.accept(new SeedBench());
        SeedBench x = chain(6);
        none.accept(x);
        due("15 all()", x.all(), SPENT);
        none.accept(x);
    }

    /** 16: Of the latest all() that was not -2; 30: 4: 0 if it was -2. */
    private void latestAll() {
        SeedBench x = begun(2, 1, E01, arrow(2, 1, 3));
        due("15 all()", x.all(), 5);
        long[] told = new long[20];
        for (int i = 0; i < 5; i++) {
            for (int v = 0; v < 4; v++) {
                told[4 * i + v] = v == 3 ? x.what(i, 2) : x.what(i, 10 + v);
            }
        }
        begin(x, 6, 6, E01, E12, E23, E34, E45);
        due("15 all()", x.all(), SPENT);
        due("30 count(4)", x.count(4), 0);
        due("16 letters", x.what(0, 0), 5);
        for (int i = 0; i < 5; i++) {
            for (int v = 0; v < 4; v++) {
                due("16 letter " + i, v == 3 ? x.what(i, 2) : x.what(i, 10 + v), told[4 * i + v]);
            }
            due("16 its variables, not the seed's", x.what(i, 13), NONE);
        }
        due("16 no more letters", x.what(5, 1), NONE);
        begin(x, 1, 0);
        due("15 all()", x.all(), 2);
        due("30 count(4)", x.count(4), 2);
        due("16 letters", x.what(0, 0), 2);
        due("16 the last", x.what(1, 2), 2);
        due("16 no more letters", x.what(2, 2), NONE);
        due("16 no more variables", x.what(1, 11), NONE);
    }

    /** 16: NONE for others. */
    private void noSuchWhat() {
        for (int n = 1; n <= 6; n++) {
            for (int m = 0; m <= 6; m += 2) {
                SeedBench x = begun(n, m);
                due("15 all()", x.all(), 1 << n);
                int letters = 2 * n;
                due("16 letters", x.what(0, 0), letters);
                due("16 the last letter", x.what(letters - 1, 1), 1);
                due("16 the last letter's last variable", x.what(letters - 1, 10 + n - 1), -1);
                due("16 the last variable", x.what(0, 10 + n + m - 1), n + m == 1 ? 1 : 0);
                due("16 no variable", x.what(0, 10 + n + m), NONE);
                due("16 no letter", x.what(letters, 1), NONE);
                due("16 no letter", x.what(letters, 10), NONE);
                for (int what = 3; what < 10; what++) {
                    due("16 what(0, " + what + ")", x.what(0, what), NONE);
                }
                for (int i : outside(0, letters - 1)) {
                    due("16 what(" + i + ", 1)", x.what(i, 1), NONE);
                    due("16 what(" + i + ", 2)", x.what(i, 2), NONE);
                    due("16 what(" + i + ", 10)", x.what(i, 10), NONE);
                }
                for (int what : outside(0, 10 + n + m - 1)) {
                    due("16 what(0, " + what + ")", x.what(0, what), NONE);
                }
            }
        }
    }

    // ---- promises 17 to 19

    private void finite(String name, SeedBench x, int answer, int tables, int... steps) {
        due("17 " + name, x.finite(), answer);
        due("19 " + name, x.tables(), tables);
        for (int i = 0; i < steps.length; i++) {
            due("18 " + name + ", step " + i, x.step(i), steps[i]);
        }
        due("18 no more steps of " + name, x.step(steps.length), NONE);
        due("18 no steps ahead of " + name, x.step(-1), NONE);
    }

    /** 17: b(i, j) * b(j, i) below -3: -3 is not, -4 is; the first one asked, too. */
    private void threeAndFour() {
        finite("one place", new SeedBench(), 1, 1);
        finite("0", begun(2, 0), 1, 1);
        finite("-1", begun(2, 0, arrow(0, 1, 1, -1)), 1, 2);
        finite("-2", begun(2, 0, arrow(0, 1, 1, -2)), 1, 2);
        finite("-3", begun(2, 0, arrow(0, 1, 1, -3)), 1, 2);
        finite("-3", begun(2, 0, arrow(0, 1, -3, 1)), 1, 2);
        finite("-4", begun(2, 0, arrow(0, 1, 1, -4)), 0, 1);
        finite("-4", begun(2, 0, arrow(0, 1, -4, 1)), 0, 1);
        finite("-4", begun(2, 0, arrow(0, 1, 2, -2)), 0, 1);
        finite("-4", begun(2, 0, arrow(0, 1, -2, 2)), 0, 1);
        finite("-81", begun(2, 0, arrow(0, 1, 9, -9)), 0, 1);
        for (int i = 1; i < 6; i++) {
            for (int j = 0; j < i; j++) {
                finite("-3 at " + i + ", " + j, begun(6, 0, arrow(i, j, 3, -1)), 1, 2);
                finite("-4 at " + i + ", " + j, begun(6, 0, arrow(i, j, 4, -1)), 0, 1);
            }
        }
        SeedBench x = begun(2, 0, arrow(0, 1, 9, -9));
        turns(x, 1, 0);
        finite("the one at hand, turned", x, 0, 1);
    }

    /** 17, 19: the first such as they come: PLACES 0, 1, ..; alike ones come once. */
    private void firstAsTheyCome() {
        int[] back = arrow(0, 2, 1, -1);
        finite("turned at 1", begun(3, 0, E01, E12, back), 0, 3, 1);
        finite("turned at 0", begun(3, 0, arrow(0, 1, 1, -1), arrow(2, 0, 1, -1), arrow(2, 1, 1, -1)), 0, 2, 0);
        finite("turned at 2", begun(3, 0, arrow(0, 1, 1, -1), arrow(0, 2, 1, -1), arrow(2, 1, 1, -1)), 0, 4, 2);
        // Where each of two places would do, the lesser one is turned.
        finite("5 and 4 would do too", begun(6, 0, E01, E12, back, E34, E45, arrow(3, 5, 1, -1)), 0, 3, 1);
        // Turning 0 twice comes to the first one again, which doesn't count.
        finite("B2, and a place apart", begun(3, 0, arrow(0, 2, 1, -2)), 1, 2);
        finite("two steps", begun(4, 0, E01, E12, E23, arrow(0, 3, 1, -1)), 0, 10, 1, 2);
        finite("four steps", begun(6, 0, E01, E12, E23, E34, E45, arrow(0, 5, 1, -1)), 0, 171, 1, 2, 3, 4);
        finite("five steps", begun(5, 2, E01, arrow(0, 2, 1, -1), arrow(0, 3, 1, -1), arrow(0, 4, 1, -1)), 0, 164,
                1, 0, 2, 3, 4);
    }

    /** 18: the PLACES turned that led to it: turned, they lead to a product below -3, and to none ahead of that. */
    private void stepsLeadThere() {
        leadsThere(begun(6, 0, arrow(0, 2, 1, -1), arrow(1, 2, 1, -1), E23, E34, arrow(3, 5, 1, -1)));
        leadsThere(begun(5, 2, arrow(0, 1, 1, -1), arrow(0, 2, 1, -1), arrow(0, 3, 1, -1), arrow(0, 4, 1, -1)));
        leadsThere(begun(6, 0, E01, E12, E23, E34, E45, arrow(0, 5, 1, -1)));
        leadsThere(begun(6, 0, E01, arrow(0, 2, 1, -1), arrow(0, 5, 1, -1), arrow(3, 4, 2, -1), arrow(3, 5, 1, -1)));
    }

    private void leadsThere(SeedBench x) {
        due("17 finite()", x.finite(), 0);
        int steps = 0;
        for (int i = 0; i < 100 && x.step(i) != NONE; i++) {
            due("18 not ahead of step " + i, isBelowThree(x), false);
            due("6 turn", x.turn(x.step(i)) > 0, true);
            steps++;
        }
        due("18 it takes steps", steps > 1, true);
        due("18 the last leads there", isBelowThree(x), true);
        due("18 the latest finite() stays", x.step(steps - 1) != NONE, true);
    }

    private static boolean isBelowThree(SeedBench x) {
        for (int i = 0; i < 6; i++) {
            for (int j = 0; j < i; j++) {
                if (x.b(i, j) * x.b(j, i) < -3) {
                    return true;
                }
            }
        }
        return false;
    }

    /** 17, 19: the greatest kinds that stay below 3000, and the longest search that finds one below -3. */
    private void mostTables() {
        finite("A3", chain(3), 1, 14);
        finite("A4", chain(4), 1, 144);
        finite("B5", begun(5, 0, E01, E12, E23, arrow(3, 4, 2, -1)), 1, 1008);
        finite("A5", chain(5), 1, 1980);
        finite("D5", begun(5, 0, E01, E12, E23, arrow(2, 4, 1, -1)), 1, 2184);
        finite("D5 A1", begun(6, 6, E01, E12, E23, arrow(2, 4, 1, -1)), 1, 2184);
        finite("a long search", begun(6, 0, E01, arrow(0, 2, 1, -1), arrow(0, 5, 1, -1), arrow(3, 4, 2, -1),
                arrow(3, 5, 1, -1)), 0, 2718, 5, 0, 1, 3, 5, 2, 4);
    }

    /** 17: if it would be the 3,001st: -2; 19: of -2: 3000; 18: no steps. */
    private void tooManyTables() {
        finite("A6", chain(6), SPENT, 3000);
        finite("B6", begun(6, 0, E01, E12, E23, E34, arrow(4, 5, 2, -1)), SPENT, 3000);
        finite("D6", begun(6, 0, E01, E12, E23, E34, arrow(3, 5, 1, -1)), SPENT, 3000);
        finite("E6", begun(6, 6, E01, E12, E23, E34, arrow(2, 5, 1, -1)), SPENT, 3000);
        SeedBench x = chain(6);
        for (int t = 0; t < 3; t++) {
            finite("A6 again", x, SPENT, 3000);
            turns(x, t);
        }
    }

    /** 17: with TABLES alone, rows 0 .. n - 1: neither held rows nor letters count. */
    private void heldRowsDontCount() {
        finite("held ones", begun(1, 6, arrow(1, 0, 9), arrow(6, 0, -9)), 1, 1);
        finite("held ones", begun(2, 6, E01, arrow(2, 0, 9), arrow(2, 1, 9), arrow(7, 1, -9)), 1, 2);
        finite("held ones", begun(3, 2, E01, E12, arrow(3, 0, 9), arrow(4, 1, -9), arrow(3, 2, 9)), 1, 14);
        SeedBench x = begun(2, 1, E01, arrow(2, 0, 9));
        turns(x, 0, 1, 0);
        finite("other letters", x, 1, 2);
        for (int n = 1; n <= 6; n++) {
            x = told(n, 6);
            for (int i = n; i < n + 6; i++) {
                for (int j = 0; j < n; j++) {
                    due("3 arrows", x.arrows(i, j, (i + j) % 2 == 0 ? 9 : -9), true);
                }
            }
            due("3 arrows", x.arrows(0, n - 1, n > 1 ? 3 : 0), true);
            due("3 arrows", x.arrows(n - 1, 0, n > 1 ? -1 : 0), true);
            due("4 begin()", x.begin(), 0);
            finite("all of the held ones", x, 1, n > 1 ? 2 : 1);
        }
    }

    /** 17: the SEED stays, and all but what the latest finite() tells. */
    private void seedStaysAtFinite() {
        Twins.View[] rest = {Twins.SEED, Twins.TOLD, Twins.UNDONE, Twins.TURNED, Twins.KEPT, Twins.ROW, Twins.RINGS,
            Twins.FENCES, Twins.WAY};
        twins.stays("17 finite()", this::busy, x -> {
            due("17 finite()", x.finite(), 1);
            due("30 the latest all() stays", x.count(4), 14);
        }, rest);
        twins.stays("17 finite(), spent", x -> {
            busy(x);
            begin(x, 6, 0, E01, E12, E23, E34, E45);
            turns(x, 3, 2);
        }, x -> due("17 finite()", x.finite(), SPENT), rest);
        twins.stays("17 not finite", x -> {
            busy(x);
            begin(x, 2, 0, arrow(0, 1, 2, -2));
            turns(x, 1);
        }, x -> due("17 finite()", x.finite(), 0), rest);
    }

    /** 18: NONE if there are not so many. */
    private void noSuchStep() {
        neverHappens("18 steps", x -> {
            for (int i : outside(0, 0)) {
                due("18 step(" + i + ")", x.step(i), NONE);
            }
        });
        due("18 ahead of any", new SeedBench().step(0), NONE);
        due("19 ahead of any", new SeedBench().tables(), 0);
        SeedBench x = new SeedBench();
        busy(x);
        due("18 the one step", x.step(0), 1);
    }

    /** 18, 19: Of the latest finite(), not of one ahead of it. */
    private void latestFinite() {
        SeedBench x = begun(3, 0, E01, E12, arrow(0, 2, 1, -1));
        finite("one step", x, 0, 3, 1);
        begin(x, 2, 0, E01);
        due("18 begin() changes nothing", x.step(0), 1);
        due("19 begin() changes nothing", x.tables(), 3);
        finite("none", x, 1, 2);
        begin(x, 3, 0, E01, E12, arrow(0, 2, 1, -1));
        finite("one step", x, 0, 3, 1);
        begin(x, 6, 0, E01, E12, E23, E34, E45);
        finite("spent", x, SPENT, 3000);
        begin(x, 2, 0, arrow(0, 1, 4, -1));
        finite("at once", x, 0, 1);
    }

    // ---- promises 20 and 21

    /** 20: n 1 .. 12, i 0 .. n - 1, PLACES 0 .. 5. */
    private void rowsOfTurns() {
        for (int n = 1; n <= 12; n++) {
            SeedBench x = begun(6, 0);
            due("20 the first of " + n, x.row(n, 0, 0), true);
            due("20 the last of " + n, x.row(n, n - 1, 5), true);
            due("20 behind the last of " + n, x.row(n, n, 0), false);
            due("20 ahead of the first of " + n, x.row(n, -1, 0), false);
            // 0 so many times and 5: places apart, so what is turned an even number of times is as it was.
            due("21 its order", x.order(), 2);
            due("20 0 at the last", x.row(n, n - 1, 0), true);
            due("21 0 " + n + " times", x.order(), n % 2 == 0 ? 1 : 2);
        }
        for (int k = 0; k < 6; k++) {
            SeedBench x = new SeedBench();
            due("20 place " + k, x.row(1, 0, k), true);
            due("21 place " + k, x.order(), k == 0 ? 2 : NONE);
        }
    }

    /** 20: false for others. */
    private void noSuchRow() {
        neverHappens("20 lengths", x -> {
            for (int n : outside(1, 12)) {
                due("20 row(" + n + ", 0, 0)", x.row(n, 0, 0), false);
                due("20 row(" + n + ", 0, 1)", x.row(n, 0, 1), false);
            }
            due("20 row(0, -1, 0)", x.row(0, -1, 0), false);
            due("20 row(13, 12, 0)", x.row(13, 12, 0), false);
        });
        neverHappens("20 where", x -> {
            for (int i : outside(0, 2)) {
                due("20 row(3, " + i + ", 1)", x.row(3, i, 1), false);
            }
            for (int i : outside(0, 11)) {
                due("20 row(12, " + i + ", 1)", x.row(12, i, 1), false);
            }
            due("20 row(1, 1, 0)", x.row(1, 1, 0), false);
        });
        neverHappens("20 places", x -> {
            for (int k : outside(0, 5)) {
                due("20 row(3, 0, " + k + ")", x.row(3, 0, k), false);
                due("20 row(12, 11, " + k + ")", x.row(12, 11, k), false);
                due("20 row(1, 0, " + k + ")", x.row(1, 0, k), false);
            }
        });
        neverHappens("20 nothing right", x -> {
            due("20 row(MIN, MIN, MIN)", x.row(MIN, MIN, MIN), false);
            due("20 row(MAX, MAX, MAX)", x.row(MAX, MAX, MAX), false);
        });
    }

    /** 20: a new row, if n is another one than ahead: all 0. */
    private void newRow() {
        SeedBench x = begun(2, 0, E01);
        tellRow(x, 1, 1);
        due("21 1, 1", x.order(), 1);
        due("20 the same n", x.row(2, 0, 0), true);
        due("21 0, 1", x.order(), 5);
        due("20 another n", x.row(3, 2, 1), true);
        due("21 0, 0, 1", x.order(), 2);
        due("20 the first n again", x.row(2, 0, 1), true);
        due("21 1, 0: it was a new row", x.order(), 5);
        due("20 another n", x.row(1, 0, 1), true);
        due("21 1", x.order(), 2);
        due("20 another n", x.row(2, 0, 0), true);
        due("21 0, 0", x.order(), 1);
        tellRow(x, 1, 1, 1, 1, 1, 1, 1, 1, 1, 1, 1, 1);
        due("21 1 twelve times", x.order(), 1);
        due("20 another n", x.row(11, 0, 1), true);
        due("21 1, and 0 ten times", x.order(), 2);
        due("20 refused: not a new row", x.row(12, 12, 0), false);
        due("20 refused: not a new row", x.row(10, 0, 6), false);
        due("21 1, and 0 ten times", x.order(), 2);
        due("20 the same n", x.row(11, 10, 1), true);
        due("21 1, 0 nine times, 1", x.order(), 2);
        due("20 12 again", x.row(12, 0, 0), true);
        due("21 0 twelve times", x.order(), 1);
    }

    /** 21: without a row: NONE. */
    private void noRow() {
        twins.nothingHappens("21 without a row", x -> { }, x -> {
            due("21 order()", x.order(), NONE);
            due("20 no such row", x.row(13, 0, 0), false);
            due("20 no such row", x.row(1, 0, 6), false);
            due("21 order()", x.order(), NONE);
        });
        SeedBench x = chain(3);
        due("21 order()", x.order(), NONE);
    }

    /** 21: with its PLACES that the SEED has not: NONE; they are told ahead of the seed that has them. */
    private void placesThatTheSeedHasNot() {
        twins.nothingHappens("21 a place too many", x -> {
            busy(x);
            tellRow(x, 0, 3, 0);
        }, x -> due("21 order()", x.order(), NONE));
        SeedBench x = new SeedBench();
        tellRow(x, 0, 0, 0, 0, 0, 0, 0, 0, 0, 0, 0, 5);
        due("21 one place", x.order(), NONE);
        for (int n = 1; n <= 6; n++) {
            begin(x, n, 0);
            due("21 " + n + " places", x.order(), n == 6 ? 2 : NONE);
            begin(x, n, 6);
            due("21 held ones are none", x.order(), n == 6 ? 2 : NONE);
        }
        due("20 the first too", x.row(12, 0, 5), true);
        due("21 5 twice, and 0 ten times", x.order(), 1);
        begin(x, 5, 0);
        due("21 five places", x.order(), NONE);
    }

    /** 21: SPENT behind 40 times: 40 is told, 41 is not. */
    private void fortyTimes() {
        SeedBench x = begun(4, 0, arrow(1, 0, 1, -1), arrow(2, 1, 1, -1), arrow(3, 2, 2, -1));
        tellRow(x, 3, 2, 0, 1);
        due("21 40 times", x.order(), 40);
        due("21 once more", x.order(), 40);
        x = begun(4, 0, arrow(1, 0, -1, 1), arrow(2, 1, 1, -1), arrow(3, 2, -1, 1));
        tellRow(x, 0, 2, 0, 1, 3, 0);
        due("21 41 times", x.order(), SPENT);
        due("21 once more", x.order(), SPENT);
        x = new SeedBench();
        tellRow(x, 0, 0);
        due("21 once", x.order(), 1);
        tellRow(x, 0);
        due("21 twice", x.order(), 2);
    }

    /** 21: The SEED stays: so does all else. */
    private void seedStaysAtOrder() {
        twins.nothingHappens("21 order()", this::busy, x -> {
            due("21 order()", x.order() > 0, true);
            due("30 turns", x.count(2), 3);
            due("21 order()", x.order() > 0, true);
        });
        twins.nothingHappens("21 order(), spent", x -> {
            busy(x);
            begin(x, 2, 0, arrow(0, 1, 2, -2));
            tellRow(x, 0, 1);
            turns(x, 1);
        }, x -> due("21 order()", x.order(), SPENT));
        twins.nothingHappens("21 a new object", x -> tellRow(x, 0), x -> due("21 order()", x.order(), 2));
        // All five turns bring the places in another order, which is the SAME.
        SeedBench x = begun(2, 0, E01);
        tellRow(x, 0, 1, 0, 1, 0);
        due("21 in another order", x.order(), 1);
        tellRow(x, 0, 1);
        due("21 two of five", x.order(), 5);
    }

    // ---- promise 30

    /** 30: NONE for others. */
    private void noSuchCount() {
        neverHappens("30 counts", x -> {
            for (int what : outside(0, 4)) {
                due("30 count(" + what + ")", x.count(what), NONE);
            }
        });
    }

    /** 30: 4: SEEDS of the latest all() (0 ahead of any, or if it was -2). */
    private void counts() {
        SeedBench x = new SeedBench();
        due("30 ahead of any", x.count(4), 0);
        due("15 all()", x.all(), 2);
        due("30 count(4)", x.count(4), 2);
        begin(x, 6, 6, E01, E12, E23, E34, E45);
        due("30 begin() changes nothing", x.count(4), 2);
        due("30 places", x.count(0), 6);
        due("30 held", x.count(1), 6);
        due("30 terms", x.count(3), 6);
        due("15 all()", x.all(), SPENT);
        due("30 it was -2", x.count(4), 0);
        begin(x, 2, 0, E01);
        due("15 all()", x.all(), 5);
        due("30 count(4)", x.count(4), 5);
        due("30 turns", x.count(2), 0);
        turns(x, 0);
        due("30 turns", x.count(2), 1);
        due("30 terms", x.count(3), 3);
        turns(x, 1);
        due("30 turns", x.count(2), 2);
        due("30 terms", x.count(3), 5);
        due("7 back()", x.back(), true);
        due("30 turns", x.count(2), 1);
        due("30 terms", x.count(3), 3);
    }
}
