import java.util.ArrayList;
import java.util.List;
import java.util.function.Consumer;

/**
 * Two objects with the same calls behind them, but for those of which the document says that nothing happens by them:
 * what is asked then must be answered alike. Each view is asked of new objects, as views may change them, and as an
 * object is good for 512 calls only.
 */
final class Twins {
    /** Asks an object and says what was answered. */
    interface View {
        void ask(SeedBench x, Answers answers);
    }

    static final class Answers {
        private final List<String> calls = new ArrayList<>();
        private final List<Long> given = new ArrayList<>();

        void add(String call, long answer) {
            calls.add(call);
            given.add(answer);
        }

        void add(String call, boolean answer) {
            add(call, answer ? 1 : 0);
        }
    }

    static final View SEED = Twins::seed;
    static final View TOLD = Twins::told;
    static final View UNDONE = Twins::undone;
    static final View TURNED = Twins::turned;
    static final View KEPT = Twins::kept;
    static final View SOUGHT = Twins::sought;
    static final View ROW = Twins::row;
    static final View RINGS = Twins::rings;
    static final View FENCES = Twins::fences;
    static final View WAY = Twins::way;
    private static final View[] ALL = {SEED, TOLD, UNDONE, TURNED, KEPT, SOUGHT, ROW, RINGS, FENCES, WAY};

    private final Check check;

    Twins(Check check) {
        this.check = check;
    }

    /** Whatever is asked behind the refused calls is answered as it is without them. */
    void nothingHappens(String name, Consumer<SeedBench> ahead, Consumer<SeedBench> refused) {
        stays(name, ahead, refused, ALL);
    }

    /** What is asked behind some calls is answered as it is without them. */
    void stays(String name, Consumer<SeedBench> ahead, Consumer<SeedBench> calls, View... views) {
        for (View view : views) {
            SeedBench without = new SeedBench();
            ahead.accept(without);
            SeedBench with = new SeedBench();
            ahead.accept(with);
            calls.accept(with);
            compare(name, view, with, without);
        }
    }

    private void compare(String name, View view, SeedBench with, SeedBench without) {
        Answers got = new Answers();
        Answers want = new Answers();
        view.ask(with, got);
        view.ask(without, want);
        for (int a = 0; a < want.given.size(); a++) {
            check.due(name + ", then " + want.calls.get(a), got.given.get(a), want.given.get(a));
        }
    }

    private static void seed(SeedBench x, Answers to) {
        for (int what = 0; what < 4; what++) {
            to.add("count(" + what + ")", x.count(what));
        }
        table(x, to);
        for (int i = 0; i < 6; i++) {
            to.add("size(" + i + ")", x.size(i));
            to.add("terms(" + i + ")", x.terms(i));
            to.add("ones(" + i + ")", x.ones(i));
            for (int v = 0; v < 12; v++) {
                to.add("least(" + i + ", " + v + ")", x.least(i, v));
            }
            for (int v = -1; v < 12; v++) {
                to.add("term(" + i + ", 0, " + v + ")", x.term(i, 0, v));
                to.add("term(" + i + ", 1, " + v + ")", x.term(i, 1, v));
            }
        }
    }

    private static void table(SeedBench x, Answers to) {
        for (int i = 0; i < 12; i++) {
            for (int j = 0; j < 6; j++) {
                to.add("b(" + i + ", " + j + ")", x.b(i, j));
            }
        }
    }

    /** The table that is being told: by what it makes of the seed, and which cells it has. */
    private static void told(SeedBench x, Answers to) {
        to.add("begin()", x.begin());
        to.add("count(0)", x.count(0));
        to.add("count(1)", x.count(1));
        to.add("count(2)", x.count(2));
        table(x, to);
        for (int i = 0; i < 13; i++) {
            to.add("arrows(" + i + ", 0, 0)", x.arrows(i, 0, 0));
        }
        for (int j = 0; j < 7; j++) {
            to.add("arrows(0, " + j + ", 0)", x.arrows(0, j, 0));
        }
    }

    private static void undone(SeedBench x, Answers to) {
        for (int t = 0; t < 6; t++) {
            to.add("back()", x.back());
            to.add("count(2)", x.count(2));
            for (int i = 0; i < 6; i++) {
                to.add("terms(" + i + ")", x.terms(i));
                to.add("ones(" + i + ")", x.ones(i));
                to.add("b(" + i + ", 0)", x.b(i, 0));
            }
        }
    }

    private static void turned(SeedBench x, Answers to) {
        for (int k = 0; k < 6; k++) {
            to.add("turn(" + k + ")", x.turn(k));
            to.add("ones(" + k + ")", x.ones(k));
            to.add("count(2)", x.count(2));
        }
    }

    private static void kept(SeedBench x, Answers to) {
        for (int t = 0; t < 6; t++) {
            for (int k = 0; k < 4; k++) {
                to.add("same(" + k + ")", x.same(k));
            }
            to.add("back()", x.back());
        }
    }

    private static void sought(SeedBench x, Answers to) {
        to.add("count(4)", x.count(4));
        to.add("what(0, 0)", x.what(0, 0));
        for (int i = 0; i < 12; i++) {
            for (int what = 1; what < 3; what++) {
                to.add("what(" + i + ", " + what + ")", x.what(i, what));
            }
            for (int what = 10; what < 23; what++) {
                to.add("what(" + i + ", " + what + ")", x.what(i, what));
            }
        }
        to.add("tables()", x.tables());
        for (int i = 0; i < 8; i++) {
            to.add("step(" + i + ")", x.step(i));
        }
        to.add("all()", x.all());
        to.add("finite()", x.finite());
        to.add("tables()", x.tables());
    }

    /** The row: by its order, and by what it is with its last place another one, if it is as long as that. */
    private static void row(SeedBench x, Answers to) {
        to.add("order()", x.order());
        to.add("row(3, 2, 0)", x.row(3, 2, 0));
        to.add("order()", x.order());
    }

    private static void rings(SeedBench x, Answers to) {
        for (int s = 0; s < 2; s++) {
            for (int what = 0; what < 3; what++) {
                to.add("ringOf(" + s + ", " + what + ")", x.ringOf(s, what));
            }
            for (int c = 0; c < 11; c++) {
                to.add("ringOf(" + s + ", " + (10 + c) + ")", x.ringOf(s, 10 + c));
                to.add("ringOf(" + s + ", " + (100 + c) + ")", x.ringOf(s, 100 + c));
                for (int j = c; j < c + 5; j++) {
                    to.add("frieze(" + s + ", " + c + ", " + j + ")", x.frieze(s, c, j));
                }
            }
        }
    }

    private static void fences(SeedBench x, Answers to) {
        for (int s = 0; s < 2; s++) {
            for (int a = 0; a < 10; a++) {
                to.add("flip(" + s + ", 0, " + a + ")", x.flip(s, 0, a));
                to.add("fence(" + s + ", 1, " + a + ")", x.fence(s, 1, a));
                to.add("fence(" + s + ", " + a + ", 4)", x.fence(s, a, 4));
            }
            to.add("seed(" + s + ")", x.seed(s));
            to.add("b(0, 1)", x.b(0, 1));
        }
    }

    private static void way(SeedBench x, Answers to) {
        for (int i = 0; i < 12; i++) {
            to.add("goes(" + i + ")", x.goes(i));
        }
        to.add("way()", x.way());
        for (int i = 0; i < 12; i++) {
            to.add("goes(" + i + ")", x.goes(i));
        }
    }
}
