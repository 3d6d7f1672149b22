import java.util.function.Supplier;

/** Long runs of calls, the same ones each time, on a FrostPane and on the Model of the document. */
public final class FrostPaneModelTest {
    private static final int RUNS = 150;
    private static final int CALLS = 512;
    private static final int METHODS = 30;

    private final Check check;
    private final int run;
    private long seed;
    private FrostPane pane = new FrostPane();
    private Model model = new Model();

    private FrostPaneModelTest(Check check, int run) {
        this.check = check;
        this.run = run;
        this.seed = run;
    }

    public static void main(String[] args) {
        Check check = new Check("FrostPaneModelTest");
        for (int run = 0; run < RUNS; run++) {
            new FrostPaneModelTest(check, run).go();
        }
        check.end();
    }

    private void go() {
        if (run % 3 > 0) {
            both("lay", () -> pane.lay(3 + run % 10, 3 + run / 10 % 10), () -> model.lay(3 + run % 10, 3 + run / 10 % 10));
        }
        int calls = 1;
        // Few of the changing calls in some runs, so that panes live long; a frosty start in others.
        for (int i = 0; i < 40 && run % 2 == 0; i++, calls++) {
            int c = below(12);
            int r = below(12);
            both("turn", () -> pane.turn(c, r), () -> model.turn(c, r));
        }
        for (; calls < CALLS; calls++) {
            call(below(METHODS), number(), number(), number());
        }
    }

    private void call(int method, int a, int b, int n) {
        switch (method) {
            case 0 -> {
                if (below(8) == 0) {
                    both("lay", () -> pane.lay(a, b), () -> model.lay(a, b));
                }
            }
            case 1 -> both("press", () -> pane.press(a, b, n), () -> model.press(a, b, n));
            case 2 -> both("setFrame", () -> pane.setFrame(n % 4), () -> model.setFrame(n % 4));
            case 3 -> addRule(n);
            case 4 -> both("breathe", () -> pane.breathe(n % 8), () -> model.breathe(n % 8));
            case 5 -> grow(n);
            case 6 -> both("columns", pane::columns, () -> model.columns);
            case 7 -> both("rows", pane::rows, () -> model.rows);
            case 8 -> both("generation", pane::generation, () -> model.generation);
            case 9 -> both("rules", pane::rules, () -> model.rules);
            case 10 -> both("breath", pane::breath, () -> model.breath);
            case 11 -> both("frozen", pane::frozen, model::frozen);
            case 12 -> both("melted", pane::melted, model::melted);
            case 13 -> both("isFrozen", () -> pane.isFrozen(a, b), () -> model.isFrozen(a, b));
            case 14 -> both("meltedFor", () -> pane.meltedFor(a, b), () -> model.meltedFor(a, b));
            case 15 -> both("around", () -> pane.around(a, b), () -> model.around(a, b));
            case 16 -> both("willFreeze", () -> pane.willFreeze(a, b), () -> model.willFreeze(a, b));
            case 17 -> both("frozenInRow", () -> pane.frozenInRow(a), () -> model.frozenInRow(a));
            case 18 -> both("flowers", pane::flowers, model::flowers);
            case 19 -> both("largestFlower", pane::largestFlower, model::largestFlower);
            case 20 -> both("flowerAt", () -> pane.flowerAt(a, b), () -> model.flowerAt(a, b));
            case 21 -> both("isMirrored", pane::isMirrored, model::isMirrored);
            case 22 -> both("frozenIn", () -> pane.frozenIn(n * 5), () -> model.frozenIn(n * 5));
            case 23 -> both("comesAgainIn", pane::comesAgainIn, model::comesAgainIn);
            case 24 -> both("standsStillIn", pane::standsStillIn, model::standsStillIn);
            case 25 -> both("peakIn", () -> pane.peakIn(n * 2), () -> model.peakIn(n * 2));
            case 26 -> both("bestBreath", () -> pane.bestBreath(n * 2), () -> model.bestBreath(n * 2));
            case 27 -> both("meanInRows", pane::meanInRows, model::meanInRows);
            case 28 -> both("digest", pane::digest, model::digest);
            default -> both("turn", () -> pane.turn(a, b), () -> model.turn(a, b));
        }
    }

    private void addRule(int n) {
        int freezes = below(4) == 0 ? n * 60 : below(512);
        int stays = below(4) == 0 ? n * 60 : below(512);
        both("addRule", () -> pane.addRule(freezes, stays), () -> model.addRule(freezes, stays));
    }

    private void grow(int n) {
        int generations = below(6) == 0 ? n * 6 : 1 + below(3);
        both("grow", () -> pane.grow(generations), () -> model.grow(generations));
    }

    private void both(String call, Supplier<Object> got, Supplier<Object> due) {
        check.same("run " + run + ": " + call, answer(got), answer(due));
    }

    private static String answer(Supplier<Object> call) {
        try {
            return call.get().toString();
        } catch (IndexOutOfBoundsException | IllegalArgumentException | IllegalStateException e) {
            return "throws." + e.getClass().getSimpleName();
        }
    }

    private int number() {
        return below(14) - 1;
    }

    private int below(int bound) {
        seed = seed * 6364136223846793005L + 1442695040888963407L;
        return (int) ((seed >>> 33) % bound);
    }
}
