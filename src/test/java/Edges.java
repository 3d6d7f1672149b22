import java.util.function.Supplier;

/** Calls just within, and just beyond, what the document lets them take. */
final class Edges {
    static final Class<IndexOutOfBoundsException> OUT = IndexOutOfBoundsException.class;
    static final Class<IllegalArgumentException> ARGUMENT = IllegalArgumentException.class;
    static final Class<IllegalStateException> STATE = IllegalStateException.class;
    private static final int[][] SIZES = {{3, 3}, {3, 12}, {12, 3}, {12, 12}, {7, 6}};
    private static final int[] FAR = {Integer.MIN_VALUE, -256, -144, -12, 12, 32, 144, 256, Integer.MAX_VALUE};

    private final Check check;

    Edges(Check check) {
        this.check = check;
    }

    interface NumberCall {
        Object on(FrostPane pane, int number);
    }

    interface CellCall {
        Object on(FrostPane pane, int column, int row);
    }

    void takesNumbers(String call, int least, int greatest, Supplier<FrostPane> maker, NumberCall run) {
        for (int number = least; number <= greatest; number++) {
            int taken = number;
            check.takes(call + ", n " + taken, maker.get(), x -> run.on(x, taken));
        }
    }

    void refusesNumbers(String call, int least, int greatest, Class<? extends RuntimeException> due,
            Supplier<FrostPane> maker, NumberCall run) {
        for (int wrong : new int[] {least - 1, greatest + 1, Integer.MIN_VALUE, Integer.MAX_VALUE}) {
            check.refuses(call + ", n " + wrong, due, maker, x -> run.on(x, wrong));
        }
    }

    void takesCells(String call, CellCall run) {
        for (int[] size : SIZES) {
            int lastColumn = size[0] - 1;
            int lastRow = size[1] - 1;
            for (int[] cell : new int[][] {{0, 0}, {lastColumn, 0}, {0, lastRow}, {lastColumn, lastRow}}) {
                check.takes(call + told(cell, size), sized(size), x -> run.on(x, cell[0], cell[1]));
            }
        }
    }

    void refusesCells(String call, CellCall run) {
        for (int[] size : SIZES) {
            int columns = size[0];
            int rows = size[1];
            int[][] beyond = {{-1, 0}, {0, -1}, {-1, -1}, {columns, 0}, {0, rows}, {columns, rows}, {-1, rows - 1},
                {columns - 1, -1}, {columns, rows - 1}, {columns - 1, rows}};
            for (int[] cell : beyond) {
                check.refuses(call + told(cell, size), OUT, () -> sized(size), x -> run.on(x, cell[0], cell[1]));
            }
        }
        for (int far : FAR) {
            check.refuses(call + " at column " + far, OUT, Panes::busy, x -> run.on(x, far, 0));
            check.refuses(call + " at row " + far, OUT, Panes::busy, x -> run.on(x, 0, far));
            check.refuses(call + " at both " + far, OUT, Panes::busy, x -> run.on(x, far, far));
        }
    }

    private static String told(int[] cell, int[] size) {
        return "(" + cell[0] + ", " + cell[1] + ") of " + size[0] + " by " + size[1];
    }

    /** Its corners are frozen, and some cells beside them are melted. */
    private static FrostPane sized(int[] size) {
        FrostPane x = Panes.clear(size[0], size[1]);
        x.press(1, 1, 3);
        for (int column = 0; column < size[0]; column += size[0] - 1) {
            x.turn(column, 0);
            x.turn(column, size[1] - 1);
        }
        x.setFrame(2);
        return x;
    }
}
