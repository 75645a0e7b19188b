import java.util.ArrayList;
import java.util.List;

/**
 * Every table of two places, every small one of three, every cutting and the ways between the small ones, answered by
 * SeedBench and by the plain model: random runs might never come to the one that is answered wrongly.
 */
public final class EverySmallTest {
    private final Check check = new Check();
    private SeedBench bench;
    private Model model;
    private String at;

    public static void main(String[] args) {
        EverySmallTest test = new EverySmallTest();
        for (int held = 0; held <= 6; held += 3) {
            test.everyTwoPlaces(held);
        }
        test.everyThreePlaces();
        for (int corners = 4; corners <= 7; corners++) {
            test.everyCutting(corners, 1);
        }
        test.everyCutting(8, 7);
        test.everyCutting(9, 211);
        test.everyCutting(10, 4001);
        test.check.end();
    }

    private void due(String call, long got, long want) {
        check.due(at + ": " + call, got, want);
    }

    private void due(String call, boolean got, boolean want) {
        check.due(at + ": " + call, got, want);
    }

    private void begin(String name, int places, int held) {
        at = name;
        bench = new SeedBench();
        model = new Model();
        due("table", bench.table(places, held), model.table(places, held));
    }

    private void arrows(int i, int j, int v) {
        due("arrows", bench.arrows(i, j, v), model.arrows(i, j, v));
    }

    private boolean isBegun() {
        int fault = bench.begin();
        due("begin()", fault, model.begin());
        for (int i = -1; i <= model.count(0); i++) {
            due("size(" + i + ")", bench.size(i), model.size(i));
        }
        return fault == 0;
    }

    private void everyTwoPlaces(int held) {
        for (int there = -9; there <= 9; there++) {
            for (int here = -9; here <= 9; here++) {
                begin("b(0, 1) " + there + ", b(1, 0) " + here + ", held " + held, 2, held);
                arrows(0, 1, there);
                arrows(1, 0, here);
                for (int i = 0; i < held; i++) {
                    arrows(2 + i, 0, (there * (i + 2) + i) % 10);
                    arrows(2 + i, 1, (there * (i + 2) + here * 3 + i) % 10);
                }
                if (isBegun()) {
                    searches();
                    for (int t = 0; t < 12; t++) {
                        due("turn(" + t % 2 + ")", bench.turn(t % 2), model.turn(t % 2));
                        letters();
                    }
                }
            }
        }
    }

    private void everyThreePlaces() {
        int[] told = new int[6];
        for (int code = 0; code < 5 * 5 * 5 * 5 * 5 * 5; code++) {
            int rest = code;
            for (int c = 0; c < told.length; c++) {
                told[c] = rest % 5 - 2;
                rest /= 5;
            }
            begin("three places, " + code, 3, 0);
            int cell = 0;
            for (int i = 0; i < 3; i++) {
                for (int j = 0; j < 3; j++) {
                    if (i != j) {
                        arrows(i, j, told[cell]);
                        cell++;
                    }
                }
            }
            if (isBegun()) {
                searches();
                orders();
            }
        }
    }

    private void searches() {
        due("finite()", bench.finite(), model.finite());
        due("tables()", bench.tables(), model.tables());
        for (int i = -1; i < 8; i++) {
            due("step(" + i + ")", bench.step(i), model.step(i));
        }
        due("all()", bench.all(), model.all());
        due("count(4)", bench.count(4), model.count(4));
        for (int i = -1; i < 30; i++) {
            for (int what = -1; what < 20; what++) {
                due("what(" + i + ", " + what + ")", bench.what(i, what), model.what(i, what));
            }
        }
    }

    /** Of all rows of two turns, and of one of three. */
    private void orders() {
        for (int code = 0; code < 9; code++) {
            row(2, 0, code / 3);
            row(2, 1, code % 3);
            due("order() of " + code / 3 + ", " + code % 3, bench.order(), model.order());
        }
        for (int i = 0; i < 3; i++) {
            row(3, i, i);
        }
        due("order() of 0, 1, 2", bench.order(), model.order());
    }

    private void row(int n, int i, int k) {
        due("row", bench.row(n, i, k), model.row(n, i, k));
    }

    private void letters() {
        int places = model.count(0);
        int variables = places + model.count(1);
        for (int i = 0; i < places; i++) {
            due("terms(" + i + ")", bench.terms(i), model.terms(i));
            due("ones(" + i + ")", bench.ones(i), model.ones(i));
            for (int v = -1; v <= variables; v++) {
                due("least(" + i + ", " + v + ")", bench.least(i, v), model.least(i, v));
                for (int t = 0; t < Math.min(model.terms(i), 20); t++) {
                    due("term(" + i + ", " + t + ", " + v + ")", bench.term(i, t, v), model.term(i, t, v));
                }
            }
        }
        for (int i = 0; i < variables; i++) {
            for (int j = 0; j < places; j++) {
                due("b(" + i + ", " + j + ")", bench.b(i, j), model.b(i, j));
            }
        }
    }

    /** Of pairs only each so many-th, where there are too many for the model. */
    private void everyCutting(int corners, int each) {
        at = corners + " corners";
        bench = new SeedBench();
        model = new Model();
        List<List<Integer>> cuttings = new ArrayList<>();
        gather(corners, 0, new ArrayList<>(), cuttings);
        int pair = 0;
        for (List<Integer> from : cuttings) {
            at = corners + " corners, from " + from;
            cut(0, corners, from);
            friezes(corners);
            seedOfCutting(corners, pair % each == 0);
            for (List<Integer> to : cuttings) {
                if (pair++ % each == 0) {
                    at = corners + " corners, from " + from + " to " + to;
                    cut(1, corners, to);
                    way();
                }
            }
        }
    }

    /** All rows of fences in their order, 100 times the lesser corner and the greater one, that are cuttings. */
    private static void gather(int corners, int next, List<Integer> fences, List<List<Integer>> cuttings) {
        if (fences.size() == corners - 3) {
            cuttings.add(new ArrayList<>(fences));
            return;
        }
        for (int code = next; code < 100 * corners; code++) {
            if (isFence(corners, code / 100, code % 100) && !isCrossed(fences, code / 100, code % 100)) {
                fences.add(code);
                gather(corners, code + 1, fences, cuttings);
                fences.remove(fences.size() - 1);
            }
        }
    }

    private static boolean isFence(int corners, int a, int b) {
        return b < corners && b > a + 1 && (a > 0 || b < corners - 1);
    }

    private static boolean isCrossed(List<Integer> fences, int a, int b) {
        for (int other : fences) {
            int c = other / 100;
            int d = other % 100;
            if (c < a && a < d && d < b || a < c && c < b && b < d) {
                return true;
            }
        }
        return false;
    }

    private void cut(int s, int corners, List<Integer> fences) {
        due("ring", bench.ring(s, corners), model.ring(s, corners));
        for (int code : fences) {
            due("fence " + code, bench.fence(s, code / 100, code % 100), model.fence(s, code / 100, code % 100));
        }
        due("ringOf(" + s + ", 2)", bench.ringOf(s, 2), 1);
    }

    private void friezes(int corners) {
        for (int i = -1; i <= corners; i++) {
            for (int j = i - 1; j <= i + corners + 1; j++) {
                due("frieze(0, " + i + ", " + j + ")", bench.frieze(0, i, j), model.frieze(0, i, j));
            }
        }
    }

    private void seedOfCutting(int corners, boolean alsoSearches) {
        boolean isDone = bench.seed(0);
        due("seed(0)", isDone, model.seed(0));
        due("seed(0)", isDone, corners < 10);
        letters();
        if (isDone && alsoSearches) {
            searches();
        }
    }

    private void way() {
        due("way()", bench.way(), model.way());
        for (int i = -1; i < 16; i++) {
            due("goes(" + i + ")", bench.goes(i), model.goes(i));
        }
    }
}
