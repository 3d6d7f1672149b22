import java.util.function.Supplier;

/** A test of its own for each sentence of the section "Terms" that names a boundary. */
public final class EdgesOfTermsTest {
    private static final int[][] SIZES = {{3, 3}, {4, 3}, {3, 5}, {12, 3}, {3, 12}, {12, 12}};

    private final Check check = new Check("EdgesOfTermsTest");
    private final Edges edges = new Edges(check);

    public static void main(String[] args) {
        EdgesOfTermsTest test = new EdgesOfTermsTest();
        test.numbers();
        test.cells();
        test.frames();
        test.rules();
        test.generations();
        test.flowers();
        test.exceptions();
        test.check.end();
    }

    // ---- numbers

    private void numbers() {
        check.sentence("Time is told in generations, from 0");
        check.same("generation()", new FrostPane().generation(), 0);
        check.same("generation() behind grow(1)", Panes.grown(new FrostPane(), 1).generation(), 1);

        check.sentence("columns, 3 to 12: taken");
        edges.takesNumbers("lay(n, 3)", 3, 12, FrostPane::new, (x, n) -> x.lay(n, 3));
        edges.takesNumbers("lay(n, 12)", 3, 12, FrostPane::new, (x, n) -> x.lay(n, 12));

        check.sentence("rows, 3 to 12: taken");
        edges.takesNumbers("lay(3, n)", 3, 12, FrostPane::new, (x, n) -> x.lay(3, n));
        edges.takesNumbers("lay(12, n)", 3, 12, FrostPane::new, (x, n) -> x.lay(12, n));

        check.sentence("columns, 3 to 12: no others");
        edges.refusesNumbers("lay(n, 3)", 3, 12, Edges.ARGUMENT, Panes::busy, (x, n) -> x.lay(n, 3));
        edges.refusesNumbers("lay(n, 12)", 3, 12, Edges.ARGUMENT, Panes::busy, (x, n) -> x.lay(n, 12));

        check.sentence("rows, 3 to 12: no others");
        edges.refusesNumbers("lay(3, n)", 3, 12, Edges.ARGUMENT, Panes::busy, (x, n) -> x.lay(3, n));
        edges.refusesNumbers("lay(12, n)", 3, 12, Edges.ARGUMENT, Panes::busy, (x, n) -> x.lay(12, n));

        check.sentence("8 of each, at first");
        check.same("columns()", new FrostPane().columns(), 8);
        check.same("rows()", new FrostPane().rows(), 8);
        check.takes("isFrozen(7, 7)", new FrostPane(), x -> x.isFrozen(7, 7));
        check.refuses("isFrozen(8, 7)", Edges.OUT, FrostPane::new, x -> x.isFrozen(8, 7));
        check.refuses("isFrozen(7, 8)", Edges.OUT, FrostPane::new, x -> x.isFrozen(7, 8));

        check.sentence("both numbered from 0");
        check.takes("turn(0, 0)", Panes.clear(3, 4), x -> x.turn(0, 0));
        check.takes("turn(2, 3)", Panes.clear(3, 4), x -> x.turn(2, 3));
        check.refuses("turn(-1, 1)", Edges.OUT, () -> Panes.clear(3, 4), x -> x.turn(-1, 1));
        check.refuses("turn(1, -1)", Edges.OUT, () -> Panes.clear(3, 4), x -> x.turn(1, -1));
        check.refuses("turn(3, 1)", Edges.OUT, () -> Panes.clear(3, 4), x -> x.turn(3, 1));
        check.refuses("turn(1, 4)", Edges.OUT, () -> Panes.clear(3, 4), x -> x.turn(1, 4));

        check.sentence("A cell is told by its column and its row");
        FrostPane x = Panes.alone(4, 3, 3, 1);
        check.same("pane", Panes.picture(x), "..../...#/....");
        check.same("frozenInRow(1)", x.frozenInRow(1), 1);
        check.refuses("isFrozen(1, 3)", Edges.OUT, () -> Panes.alone(4, 3, 3, 1), y -> y.isFrozen(1, 3));
    }

    // ---- cells

    private void cells() {
        check.sentence("clear, at first");
        check.same("pane", Panes.picture(new FrostPane()).indexOf('#'), -1);
        check.same("frozen()", new FrostPane().frozen(), 0);

        check.sentence("melted for some generations (0, at first: not)");
        check.same("melts", Panes.melts(new FrostPane()).replace("0", "").replace("/", ""), "");
        check.same("melted()", new FrostPane().melted(), 0);

        check.sentence("Around a cell are the eight cells beside it, along its row, its column, and askew");
        for (int row = 0; row < 5; row++) {
            for (int column = 0; column < 5; column++) {
                int off = Math.max(Math.abs(column - 2), Math.abs(row - 2));
                check.same("around(2, 2), (" + column + ", " + row + ") frozen",
                        Panes.alone(5, 5, column, row).around(2, 2), off == 1 ? 1 : 0);
            }
        }

        check.sentence("around a cell: none to all eight of them");
        for (int count = 0; count <= 8; count++) {
            FrostPane x = Panes.clear(3, 3);
            Panes.freezeAround(x, 1, 1, count);
            check.same("around(1, 1), a clear cell", x.around(1, 1), count);
            x.turn(1, 1);
            check.same("around(1, 1), a frozen cell", x.around(1, 1), count);
        }
    }

    // ---- frames

    private void frames() {
        check.sentence("Where there is none, by the frame: 0, a clear one");
        for (int[] size : SIZES) {
            eachAround(() -> Panes.filled(size[0], size[1]), 0, size, false);
        }

        check.sentence("Where there is none, by the frame: 1, a frozen one");
        for (int[] size : SIZES) {
            eachAround(() -> Panes.clear(size[0], size[1]), 1, size, true);
        }

        check.sentence("1, a frozen one: all frozen, and all eight around each cell are");
        for (int[] size : SIZES) {
            FrostPane x = Panes.framed(Panes.filled(size[0], size[1]), 1);
            for (int column = 0; column < size[0]; column++) {
                check.same("around(" + column + ", 0)", x.around(column, 0), 8);
                check.same("around(" + column + ", last)", x.around(column, size[1] - 1), 8);
            }
        }

        check.sentence("2, the cell at the other side, as if the first column was behind the last one");
        goesRoundByColumns();

        check.sentence("2, the cell at the other side, and the first row behind the last one");
        goesRoundByRows();

        check.sentence("2, the cell at the other side: each cell, from each other one");
        eachFrozenGoesRound(3, 3);
        eachFrozenGoesRound(4, 3);
        eachFrozenGoesRound(3, 5);
        eachFrozenGoesRound(12, 3);
        eachFrozenGoesRound(3, 12);

        check.sentence("the frame, 0, at first");
        check.same("setFrame(2), the one before", new FrostPane().setFrame(2), 0);
        check.same("around(0, 0), nothing frozen", new FrostPane().around(0, 0), 0);
        check.same("around(0, 0), the last cell frozen", Panes.alone(8, 8, 7, 7).around(0, 0), 0);
    }

    /** Either all cells are frozen and those beyond are not, or the other way. */
    private void eachAround(Supplier<FrostPane> maker, int frame, int[] size, boolean beyondOnes) {
        FrostPane x = maker.get();
        x.setFrame(frame);
        for (int row = 0; row < size[1]; row++) {
            for (int column = 0; column < size[0]; column++) {
                int along = column == 0 || column == size[0] - 1 ? 2 : 3;
                int down = row == 0 || row == size[1] - 1 ? 2 : 3;
                int within = along * down - 1;
                check.same("around(" + column + ", " + row + ") of " + size[0] + " by " + size[1],
                        x.around(column, row), beyondOnes ? 8 - within : within);
            }
        }
    }

    private void goesRoundByColumns() {
        for (int columns = 3; columns <= 12; columns++) {
            FrostPane first = Panes.framed(Panes.alone(columns, 5, 0, 2), 2);
            FrostPane last = Panes.framed(Panes.alone(columns, 5, columns - 1, 2), 2);
            for (int row = 0; row < 5; row++) {
                boolean beside = row >= 1 && row <= 3;
                check.same("around(last, " + row + "), the first frozen", first.around(columns - 1, row), beside ? 1 : 0);
                check.same("around(0, " + row + "), the last frozen", last.around(0, row), beside ? 1 : 0);
            }
        }
    }

    private void goesRoundByRows() {
        for (int rows = 3; rows <= 12; rows++) {
            FrostPane first = Panes.framed(Panes.alone(5, rows, 2, 0), 2);
            FrostPane last = Panes.framed(Panes.alone(5, rows, 2, rows - 1), 2);
            for (int column = 0; column < 5; column++) {
                boolean beside = column >= 1 && column <= 3;
                check.same("around(" + column + ", last), the first frozen", first.around(column, rows - 1), beside ? 1 : 0);
                check.same("around(" + column + ", 0), the last frozen", last.around(column, 0), beside ? 1 : 0);
            }
        }
    }

    private void eachFrozenGoesRound(int columns, int rows) {
        for (int cell = 0; cell < columns * rows; cell++) {
            int frozenColumn = cell % columns;
            int frozenRow = cell / columns;
            FrostPane x = Panes.framed(Panes.alone(columns, rows, frozenColumn, frozenRow), 2);
            for (int other = 0; other < columns * rows; other++) {
                int along = apart(other % columns, frozenColumn, columns);
                int down = apart(other / columns, frozenRow, rows);
                check.same("around(" + other % columns + ", " + other / columns + "), frozen (" + frozenColumn + ", "
                        + frozenRow + ") of " + columns + " by " + rows,
                        x.around(other % columns, other / columns), Math.max(along, down) == 1 ? 1 : 0);
            }
        }
    }

    private static int apart(int one, int other, int all) {
        int straight = Math.abs(one - other);
        return Math.min(straight, all - straight);
    }

    // ---- rules

    private void rules() {
        check.sentence("Rules. At most 6");
        FrostPane x = new FrostPane();
        for (int number = 1; number <= 5; number++) {
            check.takes("addRule(1, 2)", x, y -> y.addRule(1, 2));
        }
        check.same("rules()", x.rules(), 6);
        check.refuses("addRule(1, 2), a seventh", Edges.STATE, Panes::sixRules, y -> y.addRule(1, 2));

        check.sentence("Rules, numbered from 0");
        FrostPane numbered = new FrostPane();
        for (int number = 1; number <= 5; number++) {
            check.same("addRule(1, 2)", numbered.addRule(1, 2), number);
        }
        edges.takesNumbers("breathe(n)", 0, 5, Panes::sixRules, (y, n) -> y.breathe(n));
        edges.refusesNumbers("breathe(n)", 0, 5, Edges.OUT, Panes::sixRules, (y, n) -> y.breathe(n));

        check.sentence("for how many frozen cells around a clear cell freezes: a number, 0 to 511");
        edges.takesNumbers("addRule(n, 0)", 0, 511, FrostPane::new, (y, n) -> y.addRule(n, 0));
        edges.refusesNumbers("addRule(n, 0)", 0, 511, Edges.ARGUMENT, Panes::busy, (y, n) -> y.addRule(n, 0));

        check.sentence("for how many a frozen one stays so: a number, 0 to 511");
        edges.takesNumbers("addRule(0, n)", 0, 511, FrostPane::new, (y, n) -> y.addRule(0, n));
        edges.refusesNumbers("addRule(0, n)", 0, 511, Edges.ARGUMENT, Panes::busy, (y, n) -> y.addRule(0, n));

        check.sentence("for k cells it is so, if the number has the bit k, 2 to the power k");
        for (int bit = 0; bit <= 8; bit++) {
            int one = 1 << bit;
            FrostPane just = Panes.breathing(new FrostPane(), one, 511 - one);
            check.same("the rules", Panes.ruleNumbers(just), " 8/12 " + one + "/" + (511 - one));
        }

        check.sentence("the number 0: for none; the number 511: for all");
        check.same("the rules", Panes.ruleNumbers(Panes.breathing(new FrostPane(), 0, 511)), " 8/12 0/511");
        check.same("the rules", Panes.ruleNumbers(Panes.breathing(new FrostPane(), 511, 0)), " 8/12 511/0");

        check.sentence("The rule 0 is there at first: (8), (12)");
        check.same("the rules", Panes.ruleNumbers(new FrostPane()), " 8/12");

        check.sentence("The breath is one of the rules (0, at first)");
        check.same("breath()", new FrostPane().breath(), 0);
        check.same("breathe(0), the one before", new FrostPane().breathe(0), 0);
    }

    // ---- generations

    private void generations() {
        check.sentence("1. All cells at once, by the pane as it was");
        FrostPane none = Panes.breathing(Panes.clear(12, 12), 1, 0);
        check.same("grow(1), each freezes as none around it was frozen", none.grow(1), 144);
        FrostPane all = Panes.breathing(Panes.framed(Panes.filled(5, 4), 2), 0, 256);
        check.same("grow(1), each stays as all around it were frozen", all.grow(1), 20);

        check.sentence("1. All at once: over the sides, too");
        FrostPane down = Panes.framed(Panes.of("..#..", "..#..", ".....", ".....", "..#.."), 2);
        check.same("pane", Panes.picture(Panes.grown(down, 1)), ".###./...../...../...../.....");
        check.same("pane", Panes.picture(Panes.grown(down, 1)), "..#../..#../...../...../..#..");
        FrostPane along = Panes.framed(Panes.of(".....", ".....", "##..#", ".....", "....."), 2);
        check.same("pane", Panes.picture(Panes.grown(along, 1)), "...../#..../#..../#..../.....");
        check.same("pane", Panes.picture(Panes.grown(along, 1)), "...../...../##..#/...../.....");

        check.sentence("1. a cell that is melted is clear");
        FrostPane melted = Panes.pressed(Panes.breathing(Panes.filled(3, 3), 511, 511), 1, 1, 1);
        check.same("pane", Panes.picture(Panes.grown(melted, 1)), "#.#/.../#.#");

        check.sentence("1. a clear one that is not is frozen then, and a frozen one stays so, if the rule says so");
        check.same("grow(1), nothing frozen, all freeze", Panes.breathing(new FrostPane(), 1, 0).grow(1), 64);
        check.same("grow(1), nothing frozen, none freezes", Panes.breathing(new FrostPane(), 510, 511).grow(1), 0);
        check.same("grow(1), all frozen, all stay", Panes.breathing(Panes.filled(4, 3), 0, 511).grow(1), 12);
        check.same("grow(1), all frozen, none stays", Panes.breathing(Panes.filled(4, 3), 511, 0).grow(1), 0);

        check.sentence("1. by the rule of the breath, not by another rule");
        FrostPane other = Panes.breathing(Panes.breathing(new FrostPane(), 511, 511), 0, 0);
        check.same("grow(1)", other.grow(1), 0);

        check.sentence("2. Each melted cell is so for a generation less");
        FrostPane less = Panes.pressed(Panes.pressed(Panes.clear(4, 3), 0, 0, 9), 3, 2, 1);
        check.same("melts", Panes.melts(less), "9900/9001/0011");
        check.same("melts", Panes.melts(Panes.grown(less, 1)), "8800/8000/0000");
        check.same("melts, never below 0", Panes.melts(Panes.grown(less, 9)), "0000/0000/0000");

        check.sentence("1. before 2.: melted for 1, a cell is clear for this generation still, and can freeze in the next");
        FrostPane one = Panes.pressed(Panes.breathing(Panes.clear(3, 3), 511, 511), 1, 1, 1);
        check.same("grow(1)", one.grow(1), 4);
        check.same("melted()", one.melted(), 0);
        check.same("grow(1)", one.grow(1), 9);

        check.sentence("3. The generation is 1 greater");
        FrostPane time = new FrostPane();
        for (int generation = 1; generation <= 70; generation++) {
            time.grow(1);
            check.same("generation()", time.generation(), generation);
        }
    }

    // ---- flowers

    private void flowers() {
        check.sentence("A flower: along rows and columns");
        check.same("largestFlower(), a row", Panes.of("####", "....", "....").largestFlower(), 4);
        check.same("largestFlower(), a column", Panes.of("..#", "..#", "..#").largestFlower(), 3);
        check.same("flowers(), askew", Panes.of("#..", ".#.", "..#").flowers(), 3);
        check.same("flowers(), askew the other way", Panes.of("..#", ".#.", "#..").flowers(), 3);
        check.same("largestFlower(), askew", Panes.of("#..", ".#.", "..#").largestFlower(), 1);

        check.sentence("A flower: over cells beside each other that are all frozen");
        check.same("flowers(), a clear row between", Panes.of("###", "...", "###").flowers(), 2);
        check.same("flowers(), a clear column between", Panes.of("#.#", "#.#", "#.#").flowers(), 2);

        check.sentence("A flower: as large as can be");
        check.same("flowers()", Panes.filled(12, 12).flowers(), 1);
        check.same("flowerAt(0, 0)", Panes.filled(12, 12).flowerAt(0, 0), 144);
        check.same("flowerAt(0, 0), a long way round", Panes.of("#####", "....#", "#####", "#....", "#####").flowerAt(0, 0), 17);
        check.same("flowerAt(4, 4), a long way round", Panes.of("#####", "....#", "#####", "#....", "#####").flowerAt(4, 4), 17);
        check.same("flowers(), the longest way", Panes.snake().flowers(), 1);
        check.same("flowerAt(0, 0), from its one end", Panes.snake().flowerAt(0, 0), 78);
        check.same("flowerAt(0, 11), from its other end", Panes.snake().flowerAt(0, 11), 78);
        check.same("flowers(), the longest way, by columns", Panes.standingSnake().flowers(), 1);
        check.same("flowerAt(0, 0), from its one end", Panes.standingSnake().flowerAt(0, 0), 78);
        check.same("flowerAt(11, 0), from its other end", Panes.standingSnake().flowerAt(11, 0), 78);

        check.sentence("The frame does not matter in this");
        for (int frame = 0; frame <= 2; frame++) {
            FrostPane sides = Panes.framed(Panes.of("#..#", "....", "....", "#..#"), frame);
            check.same("flowers(), frame " + frame, sides.flowers(), 4);
            check.same("largestFlower(), frame " + frame, sides.largestFlower(), 1);
            check.same("flowerAt(3, 3), frame " + frame, sides.flowerAt(3, 3), 1);
            FrostPane none = Panes.framed(Panes.clear(3, 3), frame);
            check.same("flowers(), nothing frozen, frame " + frame, none.flowers(), 0);
        }
    }

    // ---- exceptions

    private void exceptions() {
        check.sentence("A method that throws an exception changes nothing");
        check.refuses("lay(12, 13)", Edges.ARGUMENT, Panes::busy, x -> x.lay(12, 13));
        check.refuses("turn(5, 5), melted", Edges.STATE, Panes::busy, x -> x.turn(5, 5));
        check.refuses("press(0, 6, 1)", Edges.OUT, Panes::busy, x -> x.press(0, 6, 1));
        check.refuses("press(3, 3, 10)", Edges.ARGUMENT, Panes::busy, x -> x.press(3, 3, 10));
        check.refuses("setFrame(3)", Edges.ARGUMENT, Panes::busy, x -> x.setFrame(3));
        check.refuses("addRule(5, 512)", Edges.ARGUMENT, Panes::busy, x -> x.addRule(5, 512));
        check.refuses("addRule(5, 5)", Edges.STATE, Panes::sixRules, x -> x.addRule(5, 5));
        check.refuses("breathe(3)", Edges.OUT, Panes::busy, x -> x.breathe(3));
        check.refuses("grow(61)", Edges.ARGUMENT, Panes::busy, x -> x.grow(61));
        check.refuses("frozenInRow(6)", Edges.OUT, Panes::busy, x -> x.frozenInRow(6));
        check.refuses("frozenIn(61)", Edges.ARGUMENT, Panes::busy, x -> x.frozenIn(61));
        check.refuses("peakIn(61)", Edges.ARGUMENT, Panes::busy, x -> x.peakIn(61));
        check.refuses("bestBreath(21)", Edges.ARGUMENT, Panes::busy, x -> x.bestBreath(21));

        check.sentence("of several exceptions, the one named first: press, the cell before the generations");
        for (int wrong : new int[] {0, 10, Integer.MIN_VALUE, Integer.MAX_VALUE}) {
            check.refuses("press(-1, 0, wrong)", Edges.OUT, Panes::busy, x -> x.press(-1, 0, wrong));
            check.refuses("press(7, 0, wrong)", Edges.OUT, Panes::busy, x -> x.press(7, 0, wrong));
            check.refuses("press(0, -1, wrong)", Edges.OUT, Panes::busy, x -> x.press(0, -1, wrong));
            check.refuses("press(0, 6, wrong)", Edges.OUT, Panes::busy, x -> x.press(0, 6, wrong));
        }

        check.sentence("of several exceptions, the one named first: addRule, the numbers before how many rules there are");
        for (int wrong : new int[] {-1, 512, Integer.MIN_VALUE, Integer.MAX_VALUE}) {
            check.refuses("addRule(wrong, 0), a seventh", Edges.ARGUMENT, Panes::sixRules, x -> x.addRule(wrong, 0));
            check.refuses("addRule(0, wrong), a seventh", Edges.ARGUMENT, Panes::sixRules, x -> x.addRule(0, wrong));
        }

        check.sentence("of several exceptions, the one named first: turn, no such cell before melted");
        Supplier<FrostPane> all = () -> meltedAll();
        check.refuses("turn(3, 0), all cells melted", Edges.OUT, all, x -> x.turn(3, 0));
        check.refuses("turn(0, 3), all cells melted", Edges.OUT, all, x -> x.turn(0, 3));
        check.refuses("turn(12, 0), all cells melted", Edges.OUT, all, x -> x.turn(12, 0));
        check.refuses("turn(-12, 1), all cells melted", Edges.OUT, all, x -> x.turn(-12, 1));
        check.refuses("turn(-1, 1), all cells melted", Edges.OUT, all, x -> x.turn(-1, 1));
        check.refuses("turn(2, 2), all cells melted", Edges.STATE, all, x -> x.turn(2, 2));
    }

    private static FrostPane meltedAll() {
        FrostPane x = Panes.clear(3, 3);
        for (int column = 0; column < 3; column++) {
            for (int row = 0; row < 3; row++) {
                x.press(column, row, 5);
            }
        }
        return x;
    }
}
