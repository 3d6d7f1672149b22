/** A test of its own for each sentence of the promises 9 to 24 that names a boundary. */
public final class EdgesOfWhatIsTest {
    private final Check check = new Check("EdgesOfWhatIsTest");
    private final Edges edges = new Edges(check);

    public static void main(String[] args) {
        EdgesOfWhatIsTest test = new EdgesOfWhatIsTest();
        test.promises9And10Sizes();
        test.promise11Generation();
        test.promises12And13Rules();
        test.promise14Frozen();
        test.promise15Melted();
        test.promise16IsFrozen();
        test.promise17MeltedFor();
        test.promise18Around();
        test.promise19WillFreeze();
        test.promise20FrozenInRow();
        test.promise21Flowers();
        test.promise22LargestFlower();
        test.promise23FlowerAt();
        test.promise24IsMirrored();
        test.check.end();
    }

    // ---- what there is

    private void promises9And10Sizes() {
        check.sentence("9: how many columns there are: 3 to 12");
        for (int columns = 3; columns <= 12; columns++) {
            check.same("columns() of " + columns + " by 5", Panes.clear(columns, 5).columns(), columns);
        }

        check.sentence("10: how many rows there are: 3 to 12");
        for (int rows = 3; rows <= 12; rows++) {
            check.same("rows() of 5 by " + rows, Panes.clear(5, rows).rows(), rows);
        }
    }

    private void promise11Generation() {
        check.sentence("11: the generation: from 0 on, as many greater as go by");
        FrostPane x = new FrostPane();
        check.same("generation()", x.generation(), 0);
        for (int generations = 1; generations <= 60; generations++) {
            int before = x.generation();
            x.grow(generations);
            check.same("generation() behind grow(" + generations + ")", x.generation(), before + generations);
        }

        check.sentence("An object is used for at most 512 calls: 11, the generation, as the last of them");
        FrostPane old = new FrostPane();
        for (int call = 1; call < 512; call++) {
            old.grow(60);
        }
        check.same("generation()", old.generation(), 511 * 60);
    }

    private void promises12And13Rules() {
        check.sentence("12: how many rules there are: 1 to 6");
        FrostPane x = new FrostPane();
        for (int rules = 1; rules <= 6; rules++) {
            check.same("rules()", x.rules(), rules);
            if (rules < 6) {
                x.addRule(1, 2);
            }
        }

        check.sentence("13: the rule that is the breath: the first to the last");
        FrostPane y = Panes.sixRules();
        for (int rule = 5; rule >= 0; rule--) {
            y.breathe(rule);
            check.same("breath()", y.breath(), rule);
        }
    }

    private void promise14Frozen() {
        check.sentence("14: how many cells are frozen: none to all");
        FrostPane x = Panes.clear(12, 12);
        check.same("frozen()", x.frozen(), 0);
        for (int cell = 0; cell < 144; cell++) {
            x.turn(cell % 12, cell / 12);
            check.same("frozen()", x.frozen(), cell + 1);
        }
        check.same("frozen() of the smallest", Panes.filled(3, 3).frozen(), 9);

        check.sentence("14: frozen cells: a frozen frame is not of them");
        check.same("frozen()", Panes.framed(Panes.clear(3, 3), 1).frozen(), 0);
    }

    private void promise15Melted() {
        check.sentence("15: how many cells are melted: none to all");
        check.same("melted()", Panes.filled(3, 3).melted(), 0);
        FrostPane x = Panes.pressed(Panes.clear(3, 3), 1, 1, 9);
        check.same("melted()", x.melted(), 5);
        check.same("melted()", Panes.pressed(x, 0, 0, 9).melted(), 6);
        check.same("melted()", Panes.pressed(x, 2, 0, 9).melted(), 7);
        check.same("melted()", Panes.pressed(x, 0, 2, 9).melted(), 8);
        check.same("melted()", Panes.pressed(x, 2, 2, 9).melted(), 9);

        check.sentence("15: how many cells are melted: each once, though pressed twice");
        check.same("melted()", Panes.pressed(x, 1, 1, 1).melted(), 9);

        check.sentence("15: how many cells are melted: not those for which it has ended");
        check.same("melted() behind 1", Panes.grown(x, 1).melted(), 4);
        check.same("melted() behind 8", Panes.grown(x, 7).melted(), 4);
        check.same("melted() behind 9", Panes.grown(x, 1).melted(), 0);

        check.sentence("15: how many cells are melted: one alone, at each place");
        for (int cell = 0; cell < 36; cell++) {
            check.same("melted()", Panes.meltedAlone(12, 3, cell % 12, cell / 12).melted(), 1);
            check.same("melted()", Panes.meltedAlone(3, 12, cell % 3, cell / 3).melted(), 1);
        }

        check.sentence("15: how many cells are melted: at the corner of the largest pane");
        check.same("melted()", Panes.pressed(Panes.clear(12, 12), 11, 11, 1).melted(), 3);
    }

    // ---- cells

    private void promise16IsFrozen() {
        check.sentence("16: whether the cell is frozen: one alone, of all");
        for (int cell = 0; cell < 12; cell++) {
            FrostPane x = Panes.alone(4, 3, cell % 4, cell / 4);
            for (int other = 0; other < 12; other++) {
                check.same("isFrozen(" + other % 4 + ", " + other / 4 + ")", x.isFrozen(other % 4, other / 4), other == cell);
            }
        }

        check.sentence("16: if there is no such cell");
        edges.takesCells("isFrozen", (x, column, row) -> x.isFrozen(column, row));
        edges.refusesCells("isFrozen", (x, column, row) -> x.isFrozen(column, row));
    }

    private void promise17MeltedFor() {
        check.sentence("17: for how many generations the cell is melted: 9 down to 0, and not below");
        FrostPane x = Panes.pressed(Panes.clear(12, 12), 11, 11, 9);
        for (int behind = 0; behind <= 12; behind++) {
            check.same("meltedFor(11, 11) behind " + behind, x.meltedFor(11, 11), Math.max(0, 9 - behind));
            x.grow(1);
        }

        check.sentence("17: 0 if it is not");
        check.same("meltedFor(0, 0), a clear one", new FrostPane().meltedFor(0, 0), 0);
        check.same("meltedFor(2, 2), a frozen one", Panes.filled(3, 3).meltedFor(2, 2), 0);
        check.same("meltedFor(0, 0), askew to a thumb", Panes.pressed(Panes.filled(3, 3), 1, 1, 9).meltedFor(0, 0), 0);

        check.sentence("17: if there is no such cell");
        edges.takesCells("meltedFor", (y, column, row) -> y.meltedFor(column, row));
        edges.refusesCells("meltedFor", (y, column, row) -> y.meltedFor(column, row));
    }

    private void promise18Around() {
        check.sentence("18: how many frozen cells are around it: not itself");
        check.same("around(1, 1)", Panes.alone(3, 3, 1, 1).around(1, 1), 0);
        check.same("around(0, 0)", Panes.alone(3, 3, 0, 0).around(0, 0), 0);
        check.same("around(0, 0), led round", Panes.framed(Panes.alone(3, 3, 0, 0), 2).around(0, 0), 0);

        check.sentence("18: how many frozen cells are around it: none to all eight");
        for (int count = 0; count <= 8; count++) {
            FrostPane x = Panes.clear(12, 12);
            Panes.freezeAround(x, 10, 10, count);
            check.same("around(10, 10)", x.around(10, 10), count);
        }

        check.sentence("18: how many frozen cells are around it: all frozen, at the corners, by the frame");
        int[] due = {3, 8, 8};
        for (int frame = 0; frame <= 2; frame++) {
            FrostPane x = Panes.framed(Panes.filled(3, 3), frame);
            for (int[] corner : new int[][] {{0, 0}, {2, 0}, {0, 2}, {2, 2}}) {
                check.same("around, frame " + frame, x.around(corner[0], corner[1]), due[frame]);
            }
        }

        check.sentence("18: if there is no such cell");
        edges.takesCells("around", (y, column, row) -> y.around(column, row));
        edges.refusesCells("around", (y, column, row) -> y.around(column, row));
    }

    private void promise19WillFreeze() {
        check.sentence("19: whether the cell will be frozen behind one generation: each cell, under each frame");
        for (int frame = 0; frame <= 2; frame++) {
            willFreezeAsGrown(Panes.framed(Panes.of("#.##", "..#.", "#..#"), frame));
            willFreezeAsGrown(Panes.framed(Panes.blinker(), frame));
            willFreezeAsGrown(Panes.framed(Panes.of("..#", "#..", ".##", "...", "##."), frame));
            willFreezeAsGrown(Panes.framed(Panes.of("#..........#", "#....##....#", "............", "#..........#"), frame));
            willFreezeAsGrown(Panes.framed(Panes.breathing(Panes.of("...", "#..", "..#"), 341, 170), frame));
            willFreezeAsGrown(Panes.pressed(Panes.framed(Panes.breathing(Panes.filled(5, 4), 511, 511), frame), 4, 0, 1));
        }

        check.sentence("19: whether the cell will be frozen: not one that is melted for 1 generation");
        FrostPane melted = Panes.pressed(Panes.breathing(Panes.filled(3, 3), 511, 511), 1, 1, 1);
        check.same("willFreeze(1, 1)", melted.willFreeze(1, 1), false);
        check.same("willFreeze(0, 0)", melted.willFreeze(0, 0), true);
        check.same("willFreeze(1, 1), no more melted", Panes.grown(melted, 1).willFreeze(1, 1), true);

        check.sentence("19: (nothing is changed)");
        check.changesNothing("willFreeze(0, 0)", Panes::busy, x -> x.willFreeze(0, 0));
        check.changesNothing("willFreeze(6, 5)", Panes::busy, x -> x.willFreeze(6, 5));

        check.sentence("19: if there is no such cell");
        edges.takesCells("willFreeze", (x, column, row) -> x.willFreeze(column, row));
        edges.refusesCells("willFreeze", (x, column, row) -> x.willFreeze(column, row));
    }

    private void willFreezeAsGrown(FrostPane x) {
        StringBuilder told = new StringBuilder();
        for (int row = 0; row < x.rows(); row++) {
            told.append(row > 0 ? "/" : "");
            for (int column = 0; column < x.columns(); column++) {
                told.append(x.willFreeze(column, row) ? '#' : '.');
            }
        }
        check.same("willFreeze of each cell", told.toString(), Panes.picture(Panes.grown(x, 1)));
    }

    private void promise20FrozenInRow() {
        check.sentence("20: how many cells of it are frozen: none to all");
        for (int count = 0; count <= 12; count++) {
            FrostPane x = Panes.filled(12, 3);
            for (int column = count; column < 12; column++) {
                x.turn(column, 1);
            }
            check.same("frozenInRow(1)", x.frozenInRow(1), count);
        }

        check.sentence("20: of it: the first and the last row, and of no other");
        FrostPane ends = Panes.of("###", "...", "##.", "#..");
        check.same("frozenInRow(0)", ends.frozenInRow(0), 3);
        check.same("frozenInRow(1)", ends.frozenInRow(1), 0);
        check.same("frozenInRow(2)", ends.frozenInRow(2), 2);
        check.same("frozenInRow(3)", ends.frozenInRow(3), 1);

        check.sentence("20: if there is no such row: rows are not columns");
        edges.takesNumbers("frozenInRow(n), 3 by 12", 0, 11, () -> Panes.filled(3, 12), (x, n) -> x.frozenInRow(n));
        edges.refusesNumbers("frozenInRow(n), 3 by 12", 0, 11, Edges.OUT, () -> Panes.filled(3, 12), (x, n) -> x.frozenInRow(n));
        edges.takesNumbers("frozenInRow(n), 12 by 3", 0, 2, () -> Panes.filled(12, 3), (x, n) -> x.frozenInRow(n));
        edges.refusesNumbers("frozenInRow(n), 12 by 3", 0, 2, Edges.OUT, () -> Panes.filled(12, 3), (x, n) -> x.frozenInRow(n));

        check.sentence("20: if there is no such row: not one of a pane before, larger or smaller");
        check.refuses("frozenInRow(5)", Edges.OUT, () -> laid(12, 5), x -> x.frozenInRow(5));
        check.takes("frozenInRow(11)", laid(3, 12), x -> x.frozenInRow(11));
    }

    private static FrostPane laid(int before, int rows) {
        FrostPane x = Panes.filled(5, before);
        x.lay(5, rows);
        return x;
    }

    // ---- flowers

    private void promise21Flowers() {
        check.sentence("21: how many flowers there are: none");
        check.same("flowers()", Panes.clear(3, 3).flowers(), 0);
        check.same("flowers(), a frozen frame", Panes.framed(Panes.clear(12, 12), 1).flowers(), 0);

        check.sentence("21: how many flowers there are: one, all frozen");
        check.same("flowers() of 3 by 3", Panes.filled(3, 3).flowers(), 1);
        check.same("flowers() of 12 by 12", Panes.filled(12, 12).flowers(), 1);
        check.same("flowers() of 3 by 12", Panes.filled(3, 12).flowers(), 1);

        check.sentence("21: how many flowers there are: as many as can be");
        check.same("flowers() of 3 by 3", board(3).flowers(), 5);
        check.same("flowers() of 12 by 12", board(12).flowers(), 72);

        check.sentence("21: how many flowers there are: one alone, at each place");
        for (int[] size : new int[][] {{3, 12}, {12, 3}, {4, 4}}) {
            for (int cell = 0; cell < size[0] * size[1]; cell++) {
                check.same("flowers()", aloneAt(cell, size).flowers(), 1);
            }
        }

        check.sentence("21: how many flowers there are: at the corners and sides");
        check.same("flowers()", Panes.of("#.#.#", ".....", "#...#", ".....", "#.#.#").flowers(), 8);
        check.same("flowers(), all along the sides", Panes.of("#####", "#...#", "#.#.#", "#...#", "#####").flowers(), 2);
    }

    private static FrostPane aloneAt(int cell, int[] size) {
        return Panes.alone(size[0], size[1], cell % size[0], cell / size[0]);
    }

    private static FrostPane board(int side) {
        FrostPane x = Panes.clear(side, side);
        for (int row = 0; row < side; row++) {
            for (int column = row % 2; column < side; column += 2) {
                x.turn(column, row);
            }
        }
        return x;
    }

    private void promise22LargestFlower() {
        check.sentence("22: 0 if there is none");
        check.same("largestFlower()", Panes.clear(3, 3).largestFlower(), 0);
        check.same("largestFlower(), a frozen frame", Panes.framed(Panes.clear(12, 12), 1).largestFlower(), 0);

        check.sentence("22: how many cells the largest flower has: 1 to all");
        check.same("largestFlower(), one alone", Panes.alone(12, 12, 11, 11).largestFlower(), 1);
        check.same("largestFlower(), many alone", board(12).largestFlower(), 1);
        check.same("largestFlower() of 3 by 3", Panes.filled(3, 3).largestFlower(), 9);
        check.same("largestFlower() of 12 by 12", Panes.filled(12, 12).largestFlower(), 144);

        check.sentence("22: the largest flower: one alone, at each place");
        for (int[] size : new int[][] {{3, 12}, {12, 3}, {4, 4}}) {
            for (int cell = 0; cell < size[0] * size[1]; cell++) {
                check.same("largestFlower()", aloneAt(cell, size).largestFlower(), 1);
            }
        }

        check.sentence("22: the largest flower: the first, the last, one of several");
        check.same("largestFlower(), the first", Panes.of("###.", "....", "#..#").largestFlower(), 3);
        check.same("largestFlower(), the last", Panes.of("#..#", "....", ".###").largestFlower(), 3);
        check.same("largestFlower(), the one in the middle", Panes.of("#..#", ".##.", "#..#").largestFlower(), 2);
        check.same("largestFlower(), of two as large", Panes.of("##.#", "...#", "#...").largestFlower(), 2);
    }

    private void promise23FlowerAt() {
        check.sentence("23: 0 if it is clear");
        check.same("flowerAt(1, 1), frozen ones all around", Panes.of("###", "#.#", "###").flowerAt(1, 1), 0);
        check.same("flowerAt(0, 0), a frozen frame", Panes.framed(Panes.clear(3, 3), 1).flowerAt(0, 0), 0);
        check.same("flowerAt(1, 1), melted", Panes.pressed(Panes.filled(3, 3), 1, 1, 9).flowerAt(1, 1), 0);

        check.sentence("23: how many cells the flower has in which the cell is: 1 to all");
        check.same("flowerAt(1, 1), the corners apart", Panes.of("#.#", ".#.", "#.#").flowerAt(1, 1), 1);
        check.same("flowerAt(0, 0), a thumb pressed", Panes.pressed(Panes.filled(3, 3), 1, 1, 9).flowerAt(0, 0), 1);
        check.same("flowerAt(2, 2), all frozen", Panes.filled(3, 3).flowerAt(2, 2), 9);
        check.same("flowerAt(11, 11), all frozen", Panes.filled(12, 12).flowerAt(11, 11), 144);
        check.same("flowerAt(0, 2), the row alone", Panes.of("###", "...", "##.").flowerAt(0, 2), 2);
        check.same("flowerAt(2, 0), the row alone", Panes.of("###", "...", "##.").flowerAt(2, 0), 3);

        check.sentence("23: the flower in which the cell is: the same from each cell of it");
        FrostPane ring = Panes.of("#####", "#...#", "#.#.#", "#...#", "#####");
        for (int i = 0; i < 5; i++) {
            check.same("flowerAt(i, 0)", ring.flowerAt(i, 0), 16);
            check.same("flowerAt(0, i)", ring.flowerAt(0, i), 16);
            check.same("flowerAt(i, 4)", ring.flowerAt(i, 4), 16);
            check.same("flowerAt(4, i)", ring.flowerAt(4, i), 16);
        }
        check.same("flowerAt(2, 2)", ring.flowerAt(2, 2), 1);

        check.sentence("23: if there is no such cell");
        edges.takesCells("flowerAt", (x, column, row) -> x.flowerAt(column, row));
        edges.refusesCells("flowerAt", (x, column, row) -> x.flowerAt(column, row));
    }

    private void promise24IsMirrored() {
        check.sentence("24: nothing frozen, and all frozen");
        for (int columns = 3; columns <= 12; columns++) {
            check.same("isMirrored(), nothing frozen, " + columns, Panes.clear(columns, 3).isMirrored(), true);
            check.same("isMirrored(), all frozen, " + columns, Panes.filled(columns, 3).isMirrored(), true);
        }

        check.sentence("24: the same place from the other end of its row: each column's is one alone");
        for (int columns = 3; columns <= 12; columns++) {
            for (int column = 0; column < columns; column++) {
                isMirroredByOneAlone(columns, column);
            }
        }

        check.sentence("24: each cell: the first and the last row, too");
        check.same("isMirrored(), the first row not", Panes.of("#..", "#.#", "#.#").isMirrored(), false);
        check.same("isMirrored(), the last row not", Panes.of("#.#", "#.#", "..#").isMirrored(), false);
        check.same("isMirrored(), 12 rows, the last not", Panes.alone(3, 12, 2, 11).isMirrored(), false);

        check.sentence("24: is frozen: whatever is melted");
        check.same("isMirrored(), nothing frozen", Panes.meltedAlone(3, 3, 0, 0).isMirrored(), true);
        check.same("isMirrored(), one frozen", Panes.pressed(Panes.alone(4, 3, 0, 2), 3, 0, 9).isMirrored(), false);

        check.sentence("24: of its row: not of its column, and not of another row");
        check.same("isMirrored(), by columns only", Panes.of("#..", "##.", "#..").isMirrored(), false);
        check.same("isMirrored(), by rows only", Panes.of("###", ".#.", "...").isMirrored(), true);
        check.same("isMirrored(), in another row", Panes.of("#..", "...", "..#").isMirrored(), false);
    }

    private void isMirroredByOneAlone(int columns, int column) {
        int other = columns - 1 - column;
        FrostPane x = Panes.alone(columns, 3, column, 1);
        check.same("isMirrored(), " + column + " of " + columns, x.isMirrored(), column == other);
        if (column != other) {
            x.turn(other, 1);
            check.same("isMirrored(), " + column + " and " + other + " of " + columns, x.isMirrored(), true);
        }
    }
}
