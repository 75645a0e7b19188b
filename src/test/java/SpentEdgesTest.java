import java.util.function.Consumer;

/**
 * SPENT, from both sides: 200 and 201 TERMS, numbers about 1000000000000, 9999 and 10000 in the TABLE. N has each term
 * of either product, and no lesser number, so N is where the first two bounds are met.
 */
public final class SpentEdgesTest extends Bench {
    private final Twins twins = new Twins(check);

    public static void main(String[] args) {
        SpentEdgesTest test = new SpentEdgesTest();
        test.termsOfBothProducts();
        test.termsOfOneProduct();
        test.termsThatMeet();
        test.numbers();
        test.heldRowsOfTheTable();
        test.placesOfTheTable();
        test.spentInAll();
        test.spentInOrder();
        test.check.end();
    }

    private void done(String name, Consumer<SeedBench> ahead, int k, int terms) {
        SeedBench x = new SeedBench();
        ahead.accept(x);
        int before = x.count(2);
        due("6 " + name, x.turn(k), terms);
        due("9 " + name, x.terms(k), terms);
        due("30 " + name, x.count(2), before + 1);
        due("7 " + name, x.back(), true);
        due("30 " + name, x.count(2), before);
        due("6 once more: " + name, x.turn(k), terms);
    }

    /** Then nothing is turned. */
    private void spent(String name, Consumer<SeedBench> ahead, int k) {
        twins.nothingHappens("6 " + name, ahead, x -> {
            due("6 " + name, x.turn(k), SPENT);
            due("6 again: " + name, x.turn(k), SPENT);
        });
    }

    /**
     * Places 1 to 5 turned, each to (x0 + y) / x with a held one of its own: in the turn of place 0 each comes as often
     * as its weight says, in the one product or, if it is below 0, in the other one.
     */
    private void star(SeedBench x, int... weights) {
        x.table(6, 5);
        for (int i = 1; i <= 5; i++) {
            int w = weights[i - 1];
            x.arrows(i, 0, w);
            x.arrows(0, i, -Integer.signum(w));
            x.arrows(5 + i, i, w == 0 ? 0 : -Integer.signum(w));
        }
        due("4 begin()", x.begin(), 0);
        for (int i = 1; i <= 5; i++) {
            due("6 turn", x.turn(i), weights[i - 1] == 0 ? 1 : 2);
        }
    }

    /** 200 terms of both together are done, 201 are spent, wherever the more of them are. */
    private void termsOfBothProducts() {
        done("100 and 100 terms", x -> star(x, 9, 9, -9, -9, 0), 0, 200);
        SeedBench full = new SeedBench();
        star(full, 9, 9, -9, -9, 0);
        turns(full, 0);
        due("10 the 200th term", full.term(0, 199, NONE) > 0, true);
        for (int v = -1; v < 11; v++) {
            due("10 no 201st term", full.term(0, 200, v), 0);
        }
        done("120 and 80 terms", x -> star(x, 5, 4, 3, -9, -7), 0, 200);
        done("80 and 120 terms", x -> star(x, -5, -4, -3, 9, 7), 0, 200);
        done("180 and 20 terms", x -> star(x, 9, 8, 1, -9, -1), 0, 200);
        done("150 and 50 terms", x -> star(x, 9, 4, 2, -9, -4), 0, 200);
        done("108 and 90 terms", x -> star(x, 8, 5, 1, -9, -8), 0, 198);
        spent("192 and 9 terms", x -> star(x, 7, 7, 2, -8, 0), 0);
        spent("9 and 192 terms", x -> star(x, -7, -7, -2, 8, 0), 0);
        spent("180 and 21 terms", x -> star(x, 9, 8, 1, -6, -2), 0);
        spent("120 and 81 terms", x -> star(x, 5, 4, 3, -8, -8), 0);
        spent("54 and 147 terms", x -> star(x, 8, 5, -6, -6, -2), 0);
        spent("100 and 200 terms", x -> star(x, 9, 9, -9, -9, -1), 0);
    }

    /** 200 terms in one product are 201 with the 1 of none. */
    private void termsOfOneProduct() {
        done("180 and 1", x -> star(x, 9, 8, 1, 0, 0), 0, 181);
        done("1 and 192", x -> star(x, -7, -7, -2, 0, 0), 0, 193);
        done("196 and 1", x -> star(x, 6, 6, 3, 0, 0), 0, 197);
        done("198 and 1, by 9, 11 and 2", x -> elevenTerms(x, 8), 0, 199);
        done("199 and 1, powers 0 to 198", x -> powers(x, new int[] {2, 3, 7, 9, 1}, 9, 9, 9, 9, 9), 0, 200);
        spent("200 and 1, powers 0 to 199", x -> powers(x, new int[] {2, 3, 9, 8, 1}, 9, 9, 9, 8, 9), 0);
        spent("200 and 1", x -> star(x, 9, 9, 1, 0, 0), 0);
        spent("1 and 200", x -> star(x, -9, -9, -1, 0, 0), 0);
        spent("200 and 1 of four", x -> star(x, 4, 4, 3, 1, 0), 0);
        spent("216 and 1", x -> star(x, 8, 7, 2, 0, 0), 0);
        spent("100000 and 1", x -> star(x, 9, 9, 9, 9, 9), 0);
    }

    /** 2 times 11 terms (of ten times (x0 + y), at two places) and one more row of terms. */
    private void elevenTerms(SeedBench x, int more) {
        x.table(6, 3);
        int[] weights = {9, 1, 1, more, 0};
        int[] held = {6, 6, 7, 8, 8};
        for (int i = 1; i <= 5; i++) {
            x.arrows(i, 0, weights[i - 1]);
            x.arrows(0, i, weights[i - 1] == 0 ? 0 : -1);
            x.arrows(held[i - 1], i, -1);
        }
        due("4 begin()", x.begin(), 0);
        for (int i = 1; i <= 4; i++) {
            due("6 turn", x.turn(i), 2);
        }
    }

    private void turned(SeedBench x, int[][] b, int places, int... turns) {
        x.table(places, b.length - places);
        for (int i = 0; i < b.length; i++) {
            for (int j = 0; j < places; j++) {
                x.arrows(i, j, b[i][j]);
            }
        }
        due("4 begin()", x.begin(), 0);
        turns(x, turns);
    }

    /** Terms that both products have are one of N's: it is N's that are counted. */
    private void termsThatMeet() {
        int[][] sixtyAnd189 = {{0, -1, 0, 0, -2}, {1, 0, 2, -1, 2}, {0, -2, 0, 0, 2}, {0, 1, 0, 0, -1},
            {2, -2, -2, 1, 0}};
        int[][] hundred18And152 = {{0, 0, 0, 0, 2}, {0, 0, -2, -1, 0}, {0, 2, 0, 0, 2}, {0, 1, 0, 0, -1},
            {-2, 0, -2, 1, 0}};
        int[][] hundred48And119 = {{0, 0, 0, 0, 2}, {0, 0, 0, 0, -1}, {0, 0, 0, 0, -1}, {0, 0, 0, 0, 1},
            {-2, 1, 1, -1, 0}, {1, 1, -1, 0, 0}};
        int[][] sixteenAnd197 = {{0, 0, 0, -1}, {0, 0, -1, 1}, {0, 1, 0, -2}, {1, -1, 2, 0}, {-1, 1, -1, 0}};
        sumHas200("60 and 189 terms, 49 of them the same", x -> turned(x, sixtyAnd189, 5, 1, 4, 4, 3, 4, 2), 1);
        sumHas200("118 and 152 terms, 70 of them the same",
                x -> turned(x, hundred18And152, 5, 1, 3, 4, 2, 3, 1, 0), 3);
        spent("148 and 119 terms, 66 of them the same: 201",
                x -> turned(x, hundred48And119, 5, 2, 4, 0, 4, 0, 2), 3);
        spent("16 and 197 terms, 12 of them the same: 201", x -> turned(x, sixteenAnd197, 4, 3, 2, 0, 3, 1, 0), 1);
    }

    private void sumHas200(String name, Consumer<SeedBench> ahead, int k) {
        SeedBench x = new SeedBench();
        ahead.accept(x);
        int before = x.count(2);
        due("6 " + name, x.turn(k) > 0, true);
        due("30 " + name, x.count(2), before + 1);
        due("7 " + name, x.back(), true);
        due("30 " + name, x.count(2), before);
    }

    /**
     * Places 1 to 5 turned to (x0^a + y^a) / x, which come w times each in the turn of place 0, in the one product or, if
     * it is below 0, in the other one.
     */
    private void powers(SeedBench x, int[] a, int... w) {
        x.table(6, 1);
        for (int i = 1; i <= 5; i++) {
            int sign = Integer.signum(w[i - 1]);
            x.arrows(i, 0, w[i - 1]);
            x.arrows(0, i, -sign * a[i - 1]);
            x.arrows(6, i, sign * a[i - 1]);
        }
        due("4 begin()", x.begin(), 0);
        for (int i = 1; i <= 5; i++) {
            due("6 turn", x.turn(i), 2);
        }
    }

    /** The greatest number on the way to 1000000000000 that this kind of product comes to, and the least beyond. */
    private void numbers() {
        int[] below = {1, 2, 3, 6, 6};
        SeedBench x = new SeedBench();
        powers(x, below, 9, 9, 9, 9, 9);
        due("6 998868841084", x.turn(0), 164);
        due("10 the greatest number", greatest(x, 0), 998868841084L);
        x = new SeedBench();
        powers(x, new int[] {1, 1, 1, 2, 4}, 9, 9, 9, 9, 8);
        due("6 997501963088", x.turn(0), 79);
        due("10 the greatest number", greatest(x, 0), 997501963088L);
        spent("1000004571260", y -> powers(y, new int[] {1, 2, 2, 3, 2}, 9, 9, 9, 9, 8), 0);
        spent("1000004571260 in the other product", y -> powers(y, new int[] {1, 2, 2, 3, 2}, -9, -9, -9, -9, -8), 0);
        done("998868841084 in the other product", y -> powers(y, below, -9, -9, -9, -9, -9), 0, 164);
        spent("1002163417866", y -> powers(y, new int[] {1, 1, 3, 5, 7}, 9, 9, 9, 9, 9), 0);
        spent("4116715363800", y -> powers(y, new int[] {1, 1, 1, 1, 1}, 9, 9, 9, 9, 9), 0);
        done("538257874440", y -> powers(y, new int[] {1, 1, 1, 1, 1}, 9, 9, 9, 9, 6), 0, 44);
        spent("1052049481860", y -> powers(y, new int[] {1, 1, 1, 1, 1}, 9, 9, 9, 9, 7), 0);
    }

    private static long greatest(SeedBench x, int i) {
        long greatest = 0;
        for (int t = 0; t < x.terms(i); t++) {
            greatest = Math.max(greatest, x.term(i, t, NONE));
        }
        return greatest;
    }

    /** b(far, end) becomes what it was and 125 times 80, by a turn at the middle; sign -1: all the other way round. */
    private void grown(SeedBench x, int far, int sign, int was) {
        int a = 0;
        int more = 1;
        int middle = 2;
        int c = 3;
        int end = 4;
        x.table(5, 6);
        int[][] arrows = {{a, middle, 9}, {more, middle, 4}, {middle, c, 9}, {c, end, 8}, {middle, end, 8}};
        for (int[] arrow : arrows) {
            due("3 arrows", x.arrows(arrow[0], arrow[1], sign * arrow[2]), true);
            due("3 arrows", x.arrows(arrow[1], arrow[0], -sign * arrow[2]), true);
        }
        int[] row = {9, 9, 8, 0, was};
        for (int j = 0; j < 5; j++) {
            due("3 arrows", x.arrows(far, j, sign * row[j]), true);
        }
        due("4 begin()", x.begin(), 0);
        turns(x, a, more, c);
        due("8 b(far, middle)", x.b(far, middle), sign * 125);
        due("8 b(middle, end)", x.b(middle, end), sign * 80);
        due("8 b(far, end)", x.b(far, end), sign * was);
    }

    /** 9999 is in the TABLE's bounds, 10000 is beyond them; each of the six HELD rows, above and below 0. */
    private void heldRowsOfTheTable() {
        for (int sign : new int[] {1, -1}) {
            for (int far = 5; far < 11; far++) {
                int row = far;
                SeedBench x = new SeedBench();
                grown(x, far, sign, -1);
                due("6 turn", x.turn(2) > 0, true);
                due("8 9999", x.b(far, 4), sign * 9999);
                due("7 back()", x.back(), true);
                due("8 as it was", x.b(far, 4), -sign);
                due("6 once more", x.turn(2) > 0, true);
                spent(sign * 10000 + " in row " + far, y -> grown(y, row, sign, 0), 2);
            }
            spent(sign * 10001 + " in the table", y -> grown(y, 5, sign, 1), 2);
            spent(sign * 10009 + " in the table", y -> grown(y, 10, sign, 9), 2);
        }
    }

    /**
     * Six PLACES, of which far has half the SIZE of the others, so that one of a pair alone comes to the bound: b(far,
     * end) becomes what it was and 122 times 82; turned about: b(end, far).
     */
    private void uneven(SeedBench x, int shift, boolean about, int sign, int was) {
        int[][] arrows = {{0, 2, 9, 9}, {1, 2, 6, 6}, {2, 3, 9, 9}, {3, 4, 9, 9}, {2, 4, 1, 1}, {5, 0, 8, 4}, {5, 1, 8, 4},
            {5, 2, 2, 1}, {5, 4, was, was / 2}};
        x.table(6, 0);
        for (int[] arrow : arrows) {
            int i = (arrow[0] + shift) % 6;
            int j = (arrow[1] + shift) % 6;
            due("3 arrows", x.arrows(i, j, sign * arrow[about ? 3 : 2]), true);
            due("3 arrows", x.arrows(j, i, -sign * arrow[about ? 2 : 3]), true);
        }
        due("4 begin()", x.begin(), 0);
        turns(x, shift % 6, (1 + shift) % 6, (3 + shift) % 6);
    }

    /** The same for the rows and columns of PLACES: each of the six, by one of the pair alone. */
    private void placesOfTheTable() {
        for (int shift = 0; shift < 6; shift++) {
            int by = shift;
            int far = (5 + shift) % 6;
            int end = (4 + shift) % 6;
            for (int sign : new int[] {1, -1}) {
                for (boolean about : new boolean[] {false, true}) {
                    SeedBench x = new SeedBench();
                    uneven(x, shift, about, sign, -6);
                    due("6 turn", x.turn((2 + shift) % 6) > 0, true);
                    due("8 b(far, end)", x.b(far, end), sign * (about ? 4999 : 9998));
                    due("8 b(end, far)", x.b(end, far), -sign * (about ? 9998 : 4999));
                    due("7 back()", x.back(), true);
                    due("8 as it was", x.b(far, end), -sign * (about ? 3 : 6));
                    spent("10000 at one of a pair", y -> uneven(y, by, about, sign, -4), (2 + by) % 6);
                }
            }
        }
    }

    /** 15: -2 if a TURN is SPENT, and the SEED stays; 30: 4 is 0 then. */
    private void spentInAll() {
        Consumer<SeedBench> ahead = x -> powers(x, new int[] {1, 2, 2, 3, 2}, 9, 9, 9, 9, 8);
        twins.stays("15 all()", ahead, x -> due("15 all()", x.all(), SPENT), Twins.SEED, Twins.TOLD, Twins.UNDONE,
                Twins.TURNED, Twins.KEPT, Twins.SOUGHT, Twins.ROW);
        Consumer<SeedBench> table = x -> grown(x, 5, 1, 0);
        twins.stays("15 all()", table, x -> due("15 all()", x.all(), SPENT), Twins.SEED, Twins.TOLD, Twins.UNDONE,
                Twins.TURNED, Twins.KEPT, Twins.SOUGHT, Twins.ROW);
    }

    /** 21: -2 if a TURN is SPENT, and the SEED stays. */
    private void spentInOrder() {
        twins.nothingHappens("21 200 terms", x -> {
            star(x, 9, 9, -9, -9, 0);
            tellRow(x, 0);
        }, x -> due("21 order()", x.order(), 2));
        twins.nothingHappens("21 201 terms", x -> {
            star(x, 9, 9, 1, 0, 0);
            tellRow(x, 5, 5, 0);
        }, x -> due("21 order()", x.order(), SPENT));
        twins.nothingHappens("21 numbers", x -> {
            powers(x, new int[] {1, 2, 2, 3, 2}, 9, 9, 9, 9, 8);
            tellRow(x, 0);
        }, x -> due("21 order()", x.order(), SPENT));
        twins.nothingHappens("21 the table", x -> {
            grown(x, 10, -1, 0);
            tellRow(x, 2);
        }, x -> due("21 order()", x.order(), SPENT));
        twins.nothingHappens("21 the table, once and twice", x -> {
            grown(x, 10, -1, -1);
            tellRow(x, 2);
        }, x -> due("21 order()", x.order(), 2));
    }
}
