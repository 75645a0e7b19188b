import java.util.Random;

/** Random runs of calls, each answered by SeedBench and by the plain model; the answers must be the same. */
public final class ModelTest {
    private static final int[] ODD = {-1, -2, 4, 7, 10, 11, 12, 13, 99, 100, 110, 1000,
        Integer.MIN_VALUE, Integer.MIN_VALUE + 9, Integer.MAX_VALUE, Integer.MAX_VALUE - 9};

    private final Check check = new Check();
    private final Random random;
    private SeedBench bench;
    private Model model;
    private int run;
    private int calls;

    private ModelTest(long randomSeed) {
        random = new Random(randomSeed);
    }

    public static void main(String[] args) {
        int runs = args.length > 0 ? Integer.parseInt(args[0]) : 600;
        ModelTest test = new ModelTest(args.length > 1 ? Long.parseLong(args[1]) : 20261116L);
        for (int r = 0; r < runs && test.check.wrong() == 0; r++) {
            test.oneRun(r);
        }
        test.check.end();
    }

    private void oneRun(int r) {
        run = r;
        calls = 0;
        bench = new SeedBench();
        model = new Model();
        int kind = r % 6;
        int length = 80 + random.nextInt(400);
        if (random.nextInt(8) != 0) {
            setUp(kind);
        }
        while (calls < length) {
            if (kind == 5 || random.nextInt(12) == 0) {
                ringCall();
            } else {
                seedCall(kind);
            }
        }
    }

    /** A seed or cuttings to begin with, in most runs. */
    private void setUp(int kind) {
        if (kind == 5) {
            int n = 4 + random.nextInt(7);
            for (int s = 0; s < 2; s++) {
                ring(s, n);
                fillRing(s);
            }
        } else if (kind == 4) {
            seedOfRing();
        } else {
            for (int tries = 0; tries < 5 && model.count(0) == 1; tries++) {
                newTable(kind);
            }
        }
        calls = 0;
    }

    private int small(int bound) {
        if (random.nextInt(25) == 0) {
            return ODD[random.nextInt(ODD.length)];
        }
        return random.nextInt(Math.max(bound, 1));
    }

    private void due(String call, long got, long want) {
        calls++;
        check.due("run " + run + ", call " + calls + ": " + call, got, want);
    }

    private static long one(boolean x) {
        return x ? 1 : 0;
    }

    private void table(int n, int m) {
        due("table(" + n + ", " + m + ")", one(bench.table(n, m)), one(model.table(n, m)));
    }

    private void arrows(int i, int j, int v) {
        due("arrows(" + i + ", " + j + ", " + v + ")", one(bench.arrows(i, j, v)), one(model.arrows(i, j, v)));
    }

    /** Kinds: 0 trees of single arrows, 1 with heavier ones, 2 any small, 3 any at all, 4 from rings. */
    private void newTable(int kind) {
        int n = 1 + random.nextInt(kind == 3 ? 6 : 5);
        int m = random.nextInt(3) == 0 ? random.nextInt(4) : 0;
        if (random.nextInt(10) == 0) {
            n = small(8);
            m = small(8);
        }
        table(n, m);
        if (kind < 2) {
            for (int i = 1; i < Math.min(n, 6); i++) {
                int j = random.nextInt(4) == 0 ? random.nextInt(i) : i - 1;
                int sign = random.nextBoolean() ? 1 : -1;
                int heavy = kind == 1 && random.nextInt(3) == 0 ? 1 + random.nextInt(3) : 1;
                boolean which = random.nextBoolean();
                arrows(i, j, sign * (which ? heavy : 1));
                arrows(j, i, -sign * (which ? 1 : heavy));
            }
        } else {
            int most = kind == 2 ? 2 : 9;
            int arrows = random.nextInt(2 * Math.max(Math.min(n, 7), 0) + 1);
            for (int x = 0; x < arrows; x++) {
                int i = random.nextInt(6);
                int j = random.nextInt(6);
                int v = random.nextInt(2 * most + 1) - most;
                arrows(i, j, v);
                if (random.nextInt(30) != 0) {
                    arrows(j, i, random.nextInt(8) == 0 ? -v * 2 : -v);
                }
            }
        }
        for (int x = 0; x < m && x < 8; x++) {
            arrows(n + x, random.nextInt(6), random.nextInt(5) - 2);
        }
        due("begin()", bench.begin(), model.begin());
        for (int i = -1; i < 7; i++) {
            due("size(" + i + ")", bench.size(i), model.size(i));
        }
    }

    private void seedCall(int kind) {
        int n = model.count(0);
        int i = small(n + 1);
        int j = small(n + 1);
        int v = random.nextInt(4) == 0 ? -1 : small(n + model.count(1) + 1);
        int k = small(5);
        switch (random.nextInt(24)) {
            case 0:
                if (random.nextInt(10) == 0) {
                    if (kind == 4) {
                        seedOfRing();
                    } else {
                        newTable(kind);
                    }
                }
                break;
            case 1:
                arrows(small(7), small(7), random.nextInt(21) - 10);
                break;
            case 2:
                if (random.nextInt(8) == 0) {
                    due("begin()", bench.begin(), model.begin());
                }
                break;
            case 3:
                due("size(" + i + ")", bench.size(i), model.size(i));
                break;
            case 4: case 5: case 6: case 7: case 8: case 9: case 10:
                turn(n);
                break;
            case 11:
                due("back()", one(bench.back()), one(model.back()));
                letters(n);
                break;
            case 12:
                due("b(" + i + ", " + j + ")", bench.b(i, j), model.b(i, j));
                break;
            case 13:
                int t = small(model.terms(i) + 1);
                due("term(" + i + ", " + t + ", " + v + ")", bench.term(i, t, v), model.term(i, t, v));
                break;
            case 14:
                due("least(" + i + ", " + v + ")", bench.least(i, v), model.least(i, v));
                break;
            case 15:
                due("ones(" + i + ")", bench.ones(i), model.ones(i));
                break;
            case 16:
                due("keep(" + k + ")", one(bench.keep(k)), one(model.keep(k)));
                break;
            case 17:
                due("same(" + k + ")", bench.same(k), model.same(k));
                break;
            case 18:
                if (random.nextInt(4) == 0) {
                    due("all()", bench.all(), model.all());
                }
                what();
                break;
            case 19:
                due("finite()", bench.finite(), model.finite());
                due("tables()", bench.tables(), model.tables());
                for (int s = 0; s < 6; s++) {
                    due("step(" + s + ")", bench.step(s), model.step(s));
                }
                break;
            case 20:
                due("step(" + i + ")", bench.step(i), model.step(i));
                due("tables()", bench.tables(), model.tables());
                break;
            case 21: {
                int length = random.nextInt(3) == 0 ? small(14) : 2;
                int place = small(Math.min(length, 12) + 1);
                due("row(" + length + ", " + place + ", " + j + ")", one(bench.row(length, place, j)),
                        one(model.row(length, place, j)));
                break;
            }
            case 22:
                if (random.nextInt(3) == 0) {
                    due("order()", bench.order(), model.order());
                }
                break;
            default:
                int c = small(6);
                due("count(" + c + ")", bench.count(c), model.count(c));
        }
    }

    private void turn(int n) {
        int k = small(n);
        due("turn(" + k + ")", bench.turn(k), model.turn(k));
        letters(n);
    }

    /** One letter and the whole table, told term by term; not counted as calls, as they change nothing. */
    private void letters(int n) {
        int i = random.nextInt(n);
        int width = n + model.count(1);
        int before = calls;
        for (int t = 0; t <= Math.min(model.terms(i), 30); t++) {
            for (int v = -1; v <= width; v++) {
                due("term(" + i + ", " + t + ", " + v + ")", bench.term(i, t, v), model.term(i, t, v));
            }
        }
        for (int a = 0; a <= width; a++) {
            for (int j = 0; j <= n; j++) {
                due("b(" + a + ", " + j + ")", bench.b(a, j), model.b(a, j));
            }
        }
        due("terms(" + i + ")", bench.terms(i), model.terms(i));
        due("count(3)", bench.count(3), model.count(3));
        due("count(2)", bench.count(2), model.count(2));
        calls = before;
    }

    private void what() {
        int before = calls;
        due("count(4)", bench.count(4), model.count(4));
        for (int i = -1; i < 32; i++) {
            for (int w = -1; w < 24; w++) {
                due("what(" + i + ", " + w + ")", bench.what(i, w), model.what(i, w));
            }
        }
        int i = small(50);
        int w = small(25);
        due("what(" + i + ", " + w + ")", bench.what(i, w), model.what(i, w));
        calls = before + 1;
    }

    private void ring(int s, int n) {
        due("ring(" + s + ", " + n + ")", one(bench.ring(s, n)), one(model.ring(s, n)));
    }

    private void fence(int s, int a, int b) {
        due("fence(" + s + ", " + a + ", " + b + ")", bench.fence(s, a, b), model.fence(s, a, b));
    }

    private void fillRing(int s) {
        int n = model.ringOf(s, 0);
        for (int x = 0; x < 400 && model.ringOf(s, 2) == 0; x++) {
            fence(s, random.nextInt(n), random.nextInt(n));
        }
    }

    private void seedOfRing() {
        int s = random.nextInt(2);
        int before = calls;
        ring(s, 4 + random.nextInt(7));
        fillRing(s);
        due("seed(" + s + ")", one(bench.seed(s)), one(model.seed(s)));
        letters(model.count(0));
        calls = before + 10;
    }

    private void ringCall() {
        int s = random.nextInt(20) == 0 ? ODD[random.nextInt(ODD.length)] : random.nextInt(2);
        int n = s == 0 || s == 1 ? model.ringOf(s, 0) : 5;
        int a = small(n);
        int b = small(n);
        switch (random.nextInt(9)) {
            case 0:
                if (random.nextInt(15) == 0) {
                    ring(s, random.nextInt(6) == 0 ? small(14) : 8 + random.nextInt(3));
                }
                break;
            case 1:
                fence(s, a, b);
                break;
            case 2:
                if (s == 0 || s == 1) {
                    if (random.nextInt(3) == 0) {
                        ring(s, model.ringOf(1 - s, 0));
                    }
                    fillRing(s);
                }
                break;
            case 3:
                int f = model.ringOf(s, 100 + random.nextInt(7));
                if (f >= 0 && random.nextInt(4) != 0) {
                    a = random.nextBoolean() ? f / 100 : f % 100;
                    b = f / 100 + f % 100 - a;
                }
                due("flip(" + s + ", " + a + ", " + b + ")", bench.flip(s, a, b), model.flip(s, a, b));
                break;
            case 4:
                ringTold(s);
                break;
            case 5:
                for (int j = a - 1; a >= 0 && a < n && j <= a + n + 1; j++) {
                    due("frieze(" + s + ", " + a + ", " + j + ")", bench.frieze(s, a, j), model.frieze(s, a, j));
                }
                due("frieze(" + s + ", " + a + ", " + b + ")", bench.frieze(s, a, b), model.frieze(s, a, b));
                break;
            case 6:
                if (random.nextInt(2) == 0) {
                    due("way()", bench.way(), model.way());
                }
                for (int i = -1; i < 16; i++) {
                    due("goes(" + i + ")", bench.goes(i), model.goes(i));
                }
                break;
            case 7:
                due("goes(" + a + ")", bench.goes(a), model.goes(a));
                break;
            default:
                if (random.nextInt(4) == 0) {
                    due("seed(" + s + ")", one(bench.seed(s)), one(model.seed(s)));
                }
        }
    }

    private void ringTold(int s) {
        for (int w = -1; w < 22; w++) {
            due("ringOf(" + s + ", " + w + ")", bench.ringOf(s, w), model.ringOf(s, w));
        }
        for (int w = 98; w < 112; w++) {
            due("ringOf(" + s + ", " + w + ")", bench.ringOf(s, w), model.ringOf(s, w));
        }
        int w = small(120);
        due("ringOf(" + s + ", " + w + ")", bench.ringOf(s, w), model.ringOf(s, w));
    }
}
