import java.util.function.Supplier;

/** A test of its own for each sentence of the promises 1 to 8 that names a boundary. */
public final class EdgesOfThePaneTest {
    private static final int[][] THUMB = {{2, 2}, {1, 2}, {3, 2}, {2, 1}, {2, 3}};

    private final Check check = new Check("EdgesOfThePaneTest");
    private final Edges edges = new Edges(check);

    public static void main(String[] args) {
        EdgesOfThePaneTest test = new EdgesOfThePaneTest();
        test.promise1NewObject();
        test.promise2Lay();
        test.promise3Turn();
        test.promise4Press();
        test.promise4PressNumbers();
        test.promise5SetFrame();
        test.promise6AddRule();
        test.promise7Breathe();
        test.promise8Grow();
        test.check.end();
    }

    private void promise1NewObject() {
        check.sentence("1: a clear pane");
        check.same("frozen()", new FrostPane().frozen(), 0);
        check.same("melted()", new FrostPane().melted(), 0);

        check.sentence("1: of 8 columns and 8 rows");
        check.same("columns()", new FrostPane().columns(), 8);
        check.same("rows()", new FrostPane().rows(), 8);

        check.sentence("1: with the rule 0");
        check.same("rules()", new FrostPane().rules(), 1);
        check.same("breath()", new FrostPane().breath(), 0);
        check.same("the rules", Panes.ruleNumbers(new FrostPane()), " 8/12");

        check.sentence("1: a clear frame");
        check.same("setFrame(0), the one before", new FrostPane().setFrame(0), 0);

        check.sentence("1: in the generation 0");
        check.same("generation()", new FrostPane().generation(), 0);

        check.sentence("1: a new object each time");
        FrostPane untouched = new FrostPane();
        String before = Panes.all(new FrostPane());
        Panes.sixRules().grow(60);
        check.same("one made before", Panes.all(untouched), before);
        check.same("one made behind", Panes.all(new FrostPane()), before);
    }

    private void promise2Lay() {
        check.sentence("2: another pane, clear: one that was all frozen");
        FrostPane full = Panes.filled(12, 12);
        full.lay(12, 12);
        check.same("frozen(), of the same size", full.frozen(), 0);
        check.same("pane", Panes.picture(full).indexOf('#'), -1);

        check.sentence("2: another pane, clear: laid small, then large again");
        FrostPane small = Panes.filled(12, 12);
        small.lay(3, 3);
        check.same("frozen()", small.frozen(), 0);
        small.lay(12, 12);
        check.same("frozen()", small.frozen(), 0);
        check.same("around(3, 3)", small.around(3, 3), 0);

        check.sentence("2: with no cells melted");
        FrostPane melted = Panes.pressed(Panes.clear(12, 12), 10, 10, 9);
        melted.lay(12, 12);
        check.same("melted()", melted.melted(), 0);
        check.takes("turn(10, 10)", melted, x -> x.turn(10, 10));
        FrostPane beyond = Panes.pressed(Panes.clear(12, 12), 10, 10, 9);
        beyond.lay(3, 3);
        check.same("melted(), laid small", beyond.melted(), 0);
        check.same("standsStillIn(), laid small", beyond.standsStillIn(), 0);
        beyond.lay(12, 12);
        check.same("melted(), and large again", beyond.melted(), 0);

        check.sentence("2: rules, breath, frame and generation stay");
        FrostPane kept = Panes.sixRules();
        kept.breathe(5);
        int generation = kept.generation();
        kept.lay(3, 12);
        check.same("rules()", kept.rules(), 6);
        check.same("breath()", kept.breath(), 5);
        check.same("generation()", kept.generation(), generation);
        check.same("around(0, 0)", kept.around(0, 0), 5);
        check.same("setFrame(0), the one before", kept.setFrame(0), 1);
        check.same("the rules", Panes.ruleNumbers(kept), " 8/12 8/28 68/511 0/511 511/0 85/170");

        check.sentence("2: Returns how many cells");
        for (int columns = 3; columns <= 12; columns++) {
            for (int rows = 3; rows <= 12; rows++) {
                check.same("lay(" + columns + ", " + rows + ")", new FrostPane().lay(columns, rows), columns * rows);
            }
        }

        check.sentence("2: if columns or rows is not 3 to 12: both wrong");
        for (int wrong : new int[] {2, 13, 0, -1, Integer.MIN_VALUE, Integer.MAX_VALUE}) {
            check.refuses("lay(wrong, wrong)", Edges.ARGUMENT, Panes::busy, x -> x.lay(wrong, wrong));
        }

        check.sentence("2: if columns is not 3 to 12");
        edges.takesNumbers("lay(n, 7)", 3, 12, Panes::busy, (x, n) -> x.lay(n, 7));
        edges.refusesNumbers("lay(n, 7)", 3, 12, Edges.ARGUMENT, Panes::busy, (x, n) -> x.lay(n, 7));

        check.sentence("2: if rows is not 3 to 12");
        edges.takesNumbers("lay(7, n)", 3, 12, Panes::busy, (x, n) -> x.lay(7, n));
        edges.refusesNumbers("lay(7, n)", 3, 12, Edges.ARGUMENT, Panes::busy, (x, n) -> x.lay(7, n));
    }

    private void promise3Turn() {
        check.sentence("3: Freezes a cell, if it is clear; returns whether it is frozen then");
        FrostPane x = Panes.clear(5, 4);
        turnAll(x, true);
        check.same("frozen(), all", x.frozen(), 20);

        check.sentence("3: or thaws it; returns whether it is frozen then");
        turnAll(x, false);
        check.same("frozen(), none", x.frozen(), 0);

        check.sentence("3: turns the cell alone, at the corners too");
        for (int[] corner : new int[][] {{0, 0}, {11, 0}, {0, 11}, {11, 11}}) {
            FrostPane y = Panes.alone(12, 12, corner[0], corner[1]);
            check.same("frozen()", y.frozen(), 1);
            check.same("isFrozen", y.isFrozen(corner[0], corner[1]), true);
            check.same("turn", y.turn(corner[0], corner[1]), false);
            check.same("frozen()", y.frozen(), 0);
        }

        check.sentence("3: if there is no such cell");
        edges.takesCells("turn", (y, column, row) -> y.turn(column, row));
        edges.refusesCells("turn", (y, column, row) -> y.turn(column, row));

        check.sentence("3: if it is melted");
        for (int[] at : THUMB) {
            check.refuses("turn(" + at[0] + ", " + at[1] + ")", Edges.STATE,
                    () -> Panes.pressed(Panes.filled(5, 5), 2, 2, 1), y -> y.turn(at[0], at[1]));
        }
        check.takes("turn(1, 1), not melted", Panes.pressed(Panes.filled(5, 5), 2, 2, 1), y -> y.turn(1, 1));

        check.sentence("3: if it is melted, up to the last generation of it");
        Supplier<FrostPane> last = () -> Panes.grown(Panes.pressed(new FrostPane(), 4, 4, 9), 8);
        check.refuses("turn(4, 4), melted for 1 more", Edges.STATE, last, y -> y.turn(4, 4));
        check.same("turn(4, 4), no more melted", Panes.grown(last.get(), 1).turn(4, 4), true);
    }

    private void turnAll(FrostPane x, boolean due) {
        for (int row = 0; row < x.rows(); row++) {
            for (int column = 0; column < x.columns(); column++) {
                check.same("turn(" + column + ", " + row + ")", x.turn(column, row), due);
                check.same("isFrozen(" + column + ", " + row + ")", x.isFrozen(column, row), due);
            }
        }
    }

    private void promise4Press() {
        check.sentence("4: the cell, and the four beside it along its row and its column");
        FrostPane middle = Panes.pressed(Panes.filled(5, 5), 2, 2, 3);
        check.same("pane", Panes.picture(middle), "#####/##.##/#...#/##.##/#####");
        check.same("melts", Panes.melts(middle), "00000/00300/03330/00300/00000");

        check.sentence("4: as far as there are some: at each cell, under each frame");
        for (int frame = 0; frame <= 2; frame++) {
            pressEach(3, 3, frame);
            pressEach(4, 3, frame);
            pressEach(3, 5, frame);
        }

        check.sentence("4: as far as there are some: at the corners and sides of the largest pane");
        check.same("press(0, 0, 1)", Panes.filled(12, 12).press(0, 0, 1), 3);
        check.same("press(11, 0, 1)", Panes.filled(12, 12).press(11, 0, 1), 3);
        check.same("press(0, 11, 1)", Panes.filled(12, 12).press(0, 11, 1), 3);
        check.same("press(11, 11, 1)", Panes.filled(12, 12).press(11, 11, 1), 3);
        check.same("press(5, 0, 1)", Panes.filled(12, 12).press(5, 0, 1), 4);
        check.same("press(5, 11, 1)", Panes.filled(12, 12).press(5, 11, 1), 4);
        check.same("press(0, 5, 1)", Panes.filled(12, 12).press(0, 5, 1), 4);
        check.same("press(11, 5, 1)", Panes.filled(12, 12).press(11, 5, 1), 4);
        check.same("press(1, 1, 1)", Panes.filled(12, 12).press(1, 1, 1), 5);
        check.same("press(10, 10, 1)", Panes.filled(12, 12).press(10, 10, 1), 5);

        check.sentence("4: are clear and melted: those that were clear before, too");
        FrostPane clear = Panes.pressed(Panes.clear(3, 3), 1, 1, 2);
        check.same("pane", Panes.picture(clear), ".../.../...");
        check.same("melts", Panes.melts(clear), "020/222/020");

        check.sentence("4: Returns how many of them were frozen: none to all five");
        for (int count = 0; count <= 5; count++) {
            FrostPane x = Panes.of("#.#.#", ".....", "#...#", ".....", "#.#.#");
            for (int i = 0; i < count; i++) {
                x.turn(THUMB[i][0], THUMB[i][1]);
            }
            check.same("press(2, 2, 1), " + count + " frozen", x.press(2, 2, 1), count);
            check.same("frozen()", x.frozen(), 8);
        }
        check.same("press(2, 2, 1) once more", Panes.pressed(Panes.filled(5, 5), 2, 2, 1).press(2, 2, 1), 0);
    }

    private void pressEach(int columns, int rows, int frame) {
        for (int cell = 0; cell < columns * rows; cell++) {
            int pressedColumn = cell % columns;
            int pressedRow = cell / columns;
            FrostPane x = Panes.framed(Panes.filled(columns, rows), frame);
            int due = 0;
            int answered = x.press(pressedColumn, pressedRow, 4);
            for (int other = 0; other < columns * rows; other++) {
                int column = other % columns;
                int row = other / columns;
                boolean under = Math.abs(column - pressedColumn) + Math.abs(row - pressedRow) <= 1;
                String told = "(" + column + ", " + row + "), pressed (" + pressedColumn + ", " + pressedRow + "), frame " + frame;
                check.same("meltedFor" + told, x.meltedFor(column, row), under ? 4 : 0);
                check.same("isFrozen" + told, x.isFrozen(column, row), !under);
                due += under ? 1 : 0;
            }
            check.same("press(" + pressedColumn + ", " + pressedRow + ", 4), frame " + frame, answered, due);
        }
    }

    private void promise4PressNumbers() {
        check.sentence("4: for how many generations: 1 to 9");
        for (int generations = 1; generations <= 9; generations++) {
            FrostPane x = Panes.pressed(Panes.breathing(Panes.filled(3, 3), 511, 511), 1, 1, generations);
            check.same("meltedFor(1, 1)", x.meltedFor(1, 1), generations);
            x.grow(generations);
            check.same("frozen(), clear as long as melted", x.frozen(), 4);
            x.grow(1);
            check.same("frozen(), no more melted", x.frozen(), 9);
        }

        check.sentence("4: for how many generations: pressed again, for the number pressed last");
        FrostPane again = Panes.pressed(Panes.pressed(Panes.clear(4, 3), 1, 1, 9), 2, 1, 1);
        check.same("melts", Panes.melts(again), "0910/9111/0910");
        check.same("melts", Panes.melts(Panes.pressed(again, 1, 1, 5)), "0510/5551/0510");

        check.sentence("4: if there is no such cell");
        edges.takesCells("press", (x, column, row) -> x.press(column, row, 1));
        edges.refusesCells("press", (x, column, row) -> x.press(column, row, 1));

        check.sentence("4: if generations is not 1 to 9");
        edges.takesNumbers("press(3, 3, n)", 1, 9, Panes::busy, (x, n) -> x.press(3, 3, n));
        edges.refusesNumbers("press(3, 3, n)", 1, 9, Edges.ARGUMENT, Panes::busy, (x, n) -> x.press(3, 3, n));
    }

    private void promise5SetFrame() {
        check.sentence("5: the frame from now on");
        int[] due = {0, 5, 1};
        for (int frame = 0; frame <= 2; frame++) {
            FrostPane x = Panes.alone(3, 3, 2, 2);
            check.same("around(0, 0), frame " + frame, Panes.framed(x, frame).around(0, 0), due[frame]);
        }

        check.sentence("5: Returns the one before");
        for (int before = 0; before <= 2; before++) {
            for (int frame = 0; frame <= 2; frame++) {
                FrostPane x = Panes.framed(new FrostPane(), before);
                check.same("setFrame(" + frame + ")", x.setFrame(frame), before);
                check.same("setFrame(0)", x.setFrame(0), frame);
            }
        }

        check.sentence("5: if frame is not 0 to 2");
        edges.takesNumbers("setFrame(n)", 0, 2, Panes::busy, (x, n) -> x.setFrame(n));
        edges.refusesNumbers("setFrame(n)", 0, 2, Edges.ARGUMENT, Panes::busy, (x, n) -> x.setFrame(n));
    }

    private void promise6AddRule() {
        check.sentence("6: a new rule: the breath stays");
        FrostPane x = new FrostPane();
        x.addRule(511, 511);
        check.same("breath()", x.breath(), 0);
        check.same("grow(1)", x.grow(1), 0);

        check.sentence("6: a new rule: those before stay");
        FrostPane many = new FrostPane();
        many.addRule(0, 0);
        many.addRule(511, 511);
        many.addRule(0, 511);
        many.addRule(511, 0);
        many.addRule(256, 1);
        check.same("the rules", Panes.ruleNumbers(many), " 8/12 0/0 511/511 0/511 511/0 256/1");

        check.sentence("6: Returns its number: 1 to 5");
        FrostPane numbered = new FrostPane();
        for (int number = 1; number <= 5; number++) {
            check.same("addRule(8, 12)", numbered.addRule(8, 12), number);
            check.same("rules()", numbered.rules(), number + 1);
        }

        check.sentence("6: if freezes is not 0 to 511");
        edges.takesNumbers("addRule(n, 5)", 0, 511, Panes::busy, (y, n) -> y.addRule(n, 5));
        edges.refusesNumbers("addRule(n, 5)", 0, 511, Edges.ARGUMENT, Panes::busy, (y, n) -> y.addRule(n, 5));

        check.sentence("6: if stays is not 0 to 511");
        edges.takesNumbers("addRule(5, n)", 0, 511, Panes::busy, (y, n) -> y.addRule(5, n));
        edges.refusesNumbers("addRule(5, n)", 0, 511, Edges.ARGUMENT, Panes::busy, (y, n) -> y.addRule(5, n));

        check.sentence("6: if freezes or stays is not 0 to 511: both wrong");
        check.refuses("addRule(512, 512)", Edges.ARGUMENT, Panes::busy, y -> y.addRule(512, 512));
        check.refuses("addRule(-1, -1)", Edges.ARGUMENT, Panes::busy, y -> y.addRule(-1, -1));

        check.sentence("6: if there are 6");
        check.refuses("addRule(0, 0)", Edges.STATE, Panes::sixRules, y -> y.addRule(0, 0));
        check.refuses("addRule(511, 511)", Edges.STATE, Panes::sixRules, y -> y.addRule(511, 511));
        check.refuses("addRule(8, 12), a pane laid since", Edges.STATE, () -> laid(Panes.sixRules()), y -> y.addRule(8, 12));
    }

    private static FrostPane laid(FrostPane x) {
        x.lay(5, 5);
        return x;
    }

    private void promise7Breathe() {
        check.sentence("7: the rule that is the breath from now on");
        FrostPane x = new FrostPane();
        x.addRule(511, 511);
        x.breathe(1);
        check.same("breath()", x.breath(), 1);
        check.same("grow(1)", x.grow(1), 64);
        x.breathe(0);
        check.same("breath()", x.breath(), 0);
        check.same("grow(1), the corners stay frozen", x.grow(1), 4);

        check.sentence("7: Returns the one before");
        for (int before = 0; before <= 5; before++) {
            for (int rule = 0; rule <= 5; rule++) {
                FrostPane y = Panes.sixRules();
                y.breathe(before);
                check.same("breathe(" + rule + ")", y.breathe(rule), before);
                check.same("breath()", y.breath(), rule);
            }
        }

        check.sentence("7: if there is no such rule: one rule");
        edges.takesNumbers("breathe(n)", 0, 0, FrostPane::new, (y, n) -> y.breathe(n));
        edges.refusesNumbers("breathe(n)", 0, 0, Edges.OUT, FrostPane::new, (y, n) -> y.breathe(n));

        check.sentence("7: if there is no such rule: some");
        edges.takesNumbers("breathe(n)", 0, 2, Panes::busy, (y, n) -> y.breathe(n));
        edges.refusesNumbers("breathe(n)", 0, 2, Edges.OUT, Panes::busy, (y, n) -> y.breathe(n));

        check.sentence("7: if there is no such rule: as many as can be");
        edges.takesNumbers("breathe(n)", 0, 5, Panes::sixRules, (y, n) -> y.breathe(n));
        edges.refusesNumbers("breathe(n)", 0, 5, Edges.OUT, Panes::sixRules, (y, n) -> y.breathe(n));
    }

    private void promise8Grow() {
        check.sentence("8: Lets generations go by: 1");
        FrostPane one = Panes.blinker();
        one.grow(1);
        check.same("pane", Panes.picture(one), "...../...../.###./...../.....");
        check.same("generation()", one.generation(), 1);

        check.sentence("8: Lets generations go by: each number is as many times one");
        FrostPane steps = Panes.snail(66);
        for (int generations = 1; generations <= 60; generations++) {
            steps.grow(1);
            FrostPane leap = Panes.snail(66);
            leap.grow(generations);
            check.same("digest() behind grow(" + generations + ")", leap.digest(), steps.digest());
        }

        check.sentence("8: Lets generations go by: 60");
        FrostPane sixty = Panes.pressed(Panes.blinker(), 0, 0, 9);
        sixty.grow(60);
        check.same("generation()", sixty.generation(), 60);
        check.same("melted()", sixty.melted(), 0);

        check.sentence("8: Returns how many cells are frozen then");
        check.same("grow(60), nothing frozen", new FrostPane().grow(60), 0);
        check.same("grow(1), a block", Panes.block().grow(1), 4);
        check.same("grow(60), all frozen", Panes.breathing(Panes.filled(12, 12), 0, 511).grow(60), 144);
        check.same("grow(59), to and fro", Panes.breathing(Panes.clear(12, 12), 511, 0).grow(59), 144);
        check.same("grow(60), to and fro", Panes.breathing(Panes.clear(12, 12), 511, 0).grow(60), 0);

        check.sentence("8: if generations is not 1 to 60");
        edges.takesNumbers("grow(n)", 1, 60, Panes::busy, (x, n) -> x.grow(n));
        edges.refusesNumbers("grow(n)", 1, 60, Edges.ARGUMENT, Panes::busy, (x, n) -> x.grow(n));
    }
}
