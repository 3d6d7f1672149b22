/** The promises of the document, one by one: ordinary inputs, the edges that it names, and wrong inputs. */
public final class FrostPaneTest {
    private static final Class<IndexOutOfBoundsException> OUT = IndexOutOfBoundsException.class;
    private static final Class<IllegalArgumentException> ARGUMENT = IllegalArgumentException.class;
    private static final Class<IllegalStateException> STATE = IllegalStateException.class;
    private static final int[] FAR = {Integer.MIN_VALUE, -13, -1, 12, 13, 32, 144, Integer.MAX_VALUE};

    private final Check check = new Check("FrostPaneTest");

    public static void main(String[] args) {
        new FrostPaneTest().all();
    }

    private void all() {
        promise1NewObject();
        promise2Lay();
        promise3Turn();
        promise4Press();
        promise5SetFrame();
        promise6AddRule();
        promise7Breathe();
        promise8Grow();
        promises9To13WhatThereIs();
        promises14And15Counts();
        promise16IsFrozen();
        promise17MeltedFor();
        promise18Around();
        promise19WillFreeze();
        promise20FrozenInRow();
        promises21To23Flowers();
        promise24IsMirrored();
        promise25FrozenIn();
        promise26ComesAgainIn();
        promise27StandsStillIn();
        promise28PeakIn();
        promise29BestBreath();
        promise30MeanInRows();
        promise31Digest();
        lookingChangesNothing();
        objectsAreApart();
        check.end();
    }

    // ---- the pane

    private void promise1NewObject() {
        FrostPane x = new FrostPane();
        check.same("columns()", x.columns(), 8);
        check.same("rows()", x.rows(), 8);
        check.same("generation()", x.generation(), 0);
        check.same("rules()", x.rules(), 1);
        check.same("breath()", x.breath(), 0);
        check.same("frozen()", x.frozen(), 0);
        check.same("melted()", x.melted(), 0);
        check.same("setFrame(0), the one before", x.setFrame(0), 0);
        for (int row = 0; row < 8; row++) {
            for (int column = 0; column < 8; column++) {
                check.same("isFrozen", x.isFrozen(column, row), false);
                check.same("meltedFor", x.meltedFor(column, row), 0);
                check.same("around", x.around(column, row), 0);
            }
        }
        for (int around = 0; around <= 8; around++) {
            check.same("the rule 0, a clear cell, " + around, willFreezeWith(new FrostPane(), false, around), around == 3);
            check.same("the rule 0, a frozen cell, " + around, willFreezeWith(new FrostPane(), true, around),
                    around == 2 || around == 3);
        }
    }

    private void promise2Lay() {
        FrostPane x = new FrostPane();
        check.same("lay(3, 12)", x.lay(3, 12), 36);
        check.same("columns()", x.columns(), 3);
        check.same("rows()", x.rows(), 12);
        check.same("lay(12, 3)", x.lay(12, 3), 36);
        check.same("columns()", x.columns(), 12);
        check.same("rows()", x.rows(), 3);
        check.same("lay(12, 12)", x.lay(12, 12), 144);
        check.same("lay(3, 3)", x.lay(3, 3), 9);
        for (int wrong : new int[] {2, 13, 0, -1, Integer.MIN_VALUE, Integer.MAX_VALUE}) {
            unchanged(busy(), "lay(wrong, 5)", ARGUMENT, y -> y.lay(wrong, 5));
            unchanged(busy(), "lay(5, wrong)", ARGUMENT, y -> y.lay(5, wrong));
            unchanged(busy(), "lay(wrong, wrong)", ARGUMENT, y -> y.lay(wrong, wrong));
        }
        layKeepsAllButCells();
        layLeavesNothingBehind();
    }

    private void layKeepsAllButCells() {
        FrostPane x = busy();
        int generation = x.generation();
        x.lay(9, 10);
        check.same("frozen() behind lay", x.frozen(), 0);
        check.same("melted() behind lay", x.melted(), 0);
        check.same("generation() behind lay", x.generation(), generation);
        check.same("rules() behind lay", x.rules(), 3);
        check.same("breath() behind lay", x.breath(), 1);
        check.same("around(0, 0) behind lay, the frame being frozen", x.around(0, 0), 5);
        check.same("setFrame(0) behind lay", x.setFrame(0), 1);
        check.same("the same size, laid again", x.lay(9, 10), 90);
        check.same("frozen()", x.frozen(), 0);
    }

    private void layLeavesNothingBehind() {
        FrostPane x = new FrostPane();
        x.lay(12, 12);
        x.addRule(511, 511);
        x.breathe(1);
        check.same("grow(1)", x.grow(1), 144);
        x.press(11, 11, 9);
        x.lay(3, 3);
        check.same("melted()", x.melted(), 0);
        check.same("grow(1)", x.grow(1), 9);
        x.lay(12, 12);
        check.same("frozen()", x.frozen(), 0);
        check.same("melted()", x.melted(), 0);
        check.same("around(3, 3)", x.around(3, 3), 0);
    }

    private void promise3Turn() {
        FrostPane x = new FrostPane();
        x.lay(12, 4);
        check.same("turn(11, 3)", x.turn(11, 3), true);
        check.same("isFrozen(11, 3)", x.isFrozen(11, 3), true);
        check.same("frozen()", x.frozen(), 1);
        check.same("turn(11, 3)", x.turn(11, 3), false);
        check.same("isFrozen(11, 3)", x.isFrozen(11, 3), false);
        check.same("frozen()", x.frozen(), 0);
        check.same("turn(0, 0)", x.turn(0, 0), true);
        x.press(5, 1, 1);
        for (int[] at : new int[][] {{5, 1}, {4, 1}, {6, 1}, {5, 0}, {5, 2}}) {
            unchanged(x, "turn of a melted cell", STATE, y -> y.turn(at[0], at[1]));
        }
        check.same("turn(4, 0), not melted", x.turn(4, 0), true);
        x.grow(1);
        check.same("turn(5, 1), no more melted", x.turn(5, 1), true);
        noSuchCell("turn", (y, column, row) -> y.turn(column, row));
    }

    private void promise4Press() {
        FrostPane x = filled(5, 4);
        check.same("press(2, 1, 3)", x.press(2, 1, 3), 5);
        check.same("frozen()", x.frozen(), 15);
        check.same("melted()", x.melted(), 5);
        check.same("meltedFor(2, 1)", x.meltedFor(2, 1), 3);
        check.same("meltedFor(1, 1)", x.meltedFor(1, 1), 3);
        check.same("meltedFor(3, 1)", x.meltedFor(3, 1), 3);
        check.same("meltedFor(2, 0)", x.meltedFor(2, 0), 3);
        check.same("meltedFor(2, 2)", x.meltedFor(2, 2), 3);
        check.same("meltedFor(1, 0), askew", x.meltedFor(1, 0), 0);
        check.same("isFrozen(1, 0), askew", x.isFrozen(1, 0), true);
        check.same("isFrozen(2, 1)", x.isFrozen(2, 1), false);
        check.same("press(3, 1, 1), two melted before", x.press(3, 1, 1), 3);
        check.same("meltedFor(3, 1), for the number pressed last", x.meltedFor(3, 1), 1);
        check.same("meltedFor(2, 1), for the number pressed last", x.meltedFor(2, 1), 1);
        check.same("meltedFor(1, 1), as before", x.meltedFor(1, 1), 3);
        pressAtTheBorder();
        pressWrong();
    }

    private void pressAtTheBorder() {
        for (int frame = 0; frame <= 2; frame++) {
            FrostPane x = filled(4, 3);
            x.setFrame(frame);
            check.same("press(0, 0, 9)", x.press(0, 0, 9), 3);
            check.same("press(3, 2, 9)", x.press(3, 2, 9), 3);
            check.same("melted(), none led round", x.melted(), 6);
            check.same("meltedFor(3, 0)", x.meltedFor(3, 0), 0);
            check.same("meltedFor(0, 2)", x.meltedFor(0, 2), 0);
            check.same("press(1, 2, 1)", filled(4, 3).press(1, 2, 1), 4);
        }
        FrostPane wide = filled(12, 12);
        check.same("press(11, 3, 2)", wide.press(11, 3, 2), 4);
        check.same("meltedFor(0, 4), not beside it", wide.meltedFor(0, 4), 0);
        check.same("press(0, 8, 2)", wide.press(0, 8, 2), 4);
        check.same("meltedFor(11, 7), not beside it", wide.meltedFor(11, 7), 0);
        check.same("melted()", wide.melted(), 8);
        check.same("press of a clear pane", new FrostPane().press(4, 4, 1), 0);
    }

    private void pressWrong() {
        for (int wrong : new int[] {0, 10, -1, Integer.MIN_VALUE, Integer.MAX_VALUE}) {
            unchanged(busy(), "press(0, 0, wrong)", ARGUMENT, y -> y.press(0, 0, wrong));
            unchanged(busy(), "press(-1, 0, wrong), the cell first", OUT, y -> y.press(-1, 0, wrong));
            unchanged(busy(), "press(0, 12, wrong), the cell first", OUT, y -> y.press(0, 12, wrong));
        }
        noSuchCell("press", (y, column, row) -> y.press(column, row, 1));
    }

    private void promise5SetFrame() {
        FrostPane x = new FrostPane();
        check.same("setFrame(2)", x.setFrame(2), 0);
        check.same("setFrame(1)", x.setFrame(1), 2);
        check.same("around(0, 0)", x.around(0, 0), 5);
        check.same("setFrame(0)", x.setFrame(0), 1);
        check.same("around(0, 0)", x.around(0, 0), 0);
        for (int wrong : new int[] {-1, 3, Integer.MIN_VALUE, Integer.MAX_VALUE}) {
            unchanged(busy(), "setFrame(wrong)", ARGUMENT, y -> y.setFrame(wrong));
        }
        FrostPane y = busy();
        check.fails("setFrame(3)", ARGUMENT, () -> y.setFrame(3));
        check.same("setFrame(0) behind a wrong one", y.setFrame(0), 1);
    }

    private void promise6AddRule() {
        FrostPane x = new FrostPane();
        check.same("addRule(0, 0)", x.addRule(0, 0), 1);
        check.same("addRule(511, 511)", x.addRule(511, 511), 2);
        check.same("addRule(8, 12), one as before", x.addRule(8, 12), 3);
        check.same("addRule(256, 1)", x.addRule(256, 1), 4);
        check.same("breath(), as before", x.breath(), 0);
        int[] wrongs = {-1, 512, Integer.MIN_VALUE, Integer.MAX_VALUE};
        for (int wrong : wrongs) {
            unchanged(x, "addRule(wrong, 0)", ARGUMENT, y -> y.addRule(wrong, 0));
            unchanged(x, "addRule(0, wrong)", ARGUMENT, y -> y.addRule(0, wrong));
        }
        check.same("addRule(1, 2)", x.addRule(1, 2), 5);
        check.same("rules()", x.rules(), 6);
        unchanged(x, "addRule(1, 2), a seventh", STATE, y -> y.addRule(1, 2));
        for (int wrong : wrongs) {
            unchanged(x, "addRule(wrong, 0), the number first", ARGUMENT, y -> y.addRule(wrong, 0));
            unchanged(x, "addRule(0, wrong), the number first", ARGUMENT, y -> y.addRule(0, wrong));
        }
        for (int number = 0; number < 512; number += 73) {
            eachCountGoesByItsBit(number);
        }
    }

    private void eachCountGoesByItsBit(int number) {
        for (int around = 0; around <= 8; around++) {
            FrostPane x = new FrostPane();
            x.breathe(x.addRule(number, 511 - number));
            boolean has = number / (1 << around) % 2 == 1;
            check.same("freezes " + number + " with " + around, willFreezeWith(x, false, around), has);
            x.lay(8, 8);
            check.same("stays " + (511 - number) + " with " + around, willFreezeWith(x, true, around), !has);
        }
    }

    private void promise7Breathe() {
        FrostPane x = new FrostPane();
        check.same("breathe(0)", x.breathe(0), 0);
        unchanged(x, "breathe(1), not there yet", OUT, y -> y.breathe(1));
        x.addRule(511, 511);
        x.addRule(0, 0);
        check.same("breathe(2)", x.breathe(2), 0);
        check.same("breath()", x.breath(), 2);
        check.same("grow(1)", x.grow(1), 0);
        check.same("breathe(1)", x.breathe(1), 2);
        check.same("grow(1)", x.grow(1), 64);
        for (int wrong : new int[] {-1, 3, 6, Integer.MIN_VALUE, Integer.MAX_VALUE}) {
            unchanged(x, "breathe(wrong)", OUT, y -> y.breathe(wrong));
        }
        check.same("breath() behind wrong ones", x.breath(), 1);
    }

    private void promise8Grow() {
        FrostPane x = blinker();
        check.same("grow(1)", x.grow(1), 3);
        check.same("pane", picture(x), "...../...../.###./...../.....");
        check.same("grow(59)", x.grow(59), 3);
        check.same("pane", picture(x), "...../..#../..#../..#../.....");
        check.same("grow(60)", x.grow(60), 3);
        check.same("pane", picture(x), "...../..#../..#../..#../.....");
        check.same("generation()", x.generation(), 120);
        for (int wrong : new int[] {0, 61, -1, Integer.MIN_VALUE, Integer.MAX_VALUE}) {
            unchanged(busy(), "grow(wrong)", ARGUMENT, y -> y.grow(wrong));
        }
        growsAtTheFrame();
        meltedCellsStayClear();
    }

    private void growsAtTheFrame() {
        FrostPane clear = paneOf("#.#", "...", "...", "#..");
        check.same("grow(1), a clear frame", clear.grow(1), 0);
        FrostPane frozen = paneOf("...", "...", "...", "...");
        frozen.setFrame(1);
        check.same("grow(1), a frozen frame", frozen.grow(1), 6);
        check.same("pane", picture(frozen), ".#./#.#/#.#/.#.");
        FrostPane round = paneOf("#..#", "....", "....", "#...");
        round.setFrame(2);
        check.same("grow(1), a frame that leads round", round.grow(1), 4);
        check.same("pane", picture(round), "#..#/..../..../#..#");
    }

    private void meltedCellsStayClear() {
        FrostPane x = new FrostPane();
        x.lay(3, 3);
        x.breathe(x.addRule(511, 511));
        x.press(0, 0, 1);
        x.press(2, 2, 2);
        check.same("grow(1)", x.grow(1), 3);
        check.same("pane", picture(x), "..#/.#./#..");
        check.same("melted()", x.melted(), 3);
        check.same("meltedFor(0, 0)", x.meltedFor(0, 0), 0);
        check.same("meltedFor(2, 2)", x.meltedFor(2, 2), 1);
        check.same("grow(1)", x.grow(1), 6);
        check.same("pane", picture(x), "###/##./#..");
        check.same("melted()", x.melted(), 0);
        check.same("grow(1)", x.grow(1), 9);
    }

    // ---- what there is

    private void promises9To13WhatThereIs() {
        FrostPane x = busy();
        check.same("columns()", x.columns(), 7);
        check.same("rows()", x.rows(), 6);
        check.same("generation()", x.generation(), 3);
        check.same("rules()", x.rules(), 3);
        check.same("breath()", x.breath(), 1);
        for (int generation = 3; generation < 600; generation += 60) {
            check.same("generation()", x.generation(), generation);
            x.grow(60);
        }
    }

    private void promises14And15Counts() {
        FrostPane x = new FrostPane();
        x.lay(12, 12);
        int count = 0;
        for (int row = 0; row < 12; row++) {
            for (int column = 0; column < 12; column++) {
                x.turn(column, row);
                count++;
                check.same("frozen()", x.frozen(), count);
            }
        }
        check.same("press(0, 11, 1)", x.press(0, 11, 1), 3);
        check.same("frozen()", x.frozen(), 141);
        check.same("melted()", x.melted(), 3);
        x.press(11, 0, 9);
        check.same("melted()", x.melted(), 6);
        x.grow(1);
        check.same("melted()", x.melted(), 3);
        x.grow(7);
        check.same("melted()", x.melted(), 3);
        x.grow(1);
        check.same("melted()", x.melted(), 0);
    }

    // ---- cells

    private void promise16IsFrozen() {
        FrostPane x = paneOf("#..", ".#.", "..#", "##.");
        check.same("pane", picture(x), "#../.#./..#/##.");
        check.same("isFrozen(2, 1)", x.isFrozen(2, 1), false);
        check.same("isFrozen(1, 2)", x.isFrozen(1, 2), false);
        check.same("isFrozen(0, 3)", x.isFrozen(0, 3), true);
        noSuchCell("isFrozen", (y, column, row) -> y.isFrozen(column, row));
    }

    private void promise17MeltedFor() {
        FrostPane x = new FrostPane();
        x.press(7, 7, 9);
        for (int left = 9; left >= 0; left--) {
            check.same("meltedFor(7, 7)", x.meltedFor(7, 7), left);
            check.same("meltedFor(7, 6)", x.meltedFor(7, 6), left);
            check.same("meltedFor(6, 6)", x.meltedFor(6, 6), 0);
            x.grow(1);
        }
        check.same("meltedFor(7, 7)", x.meltedFor(7, 7), 0);
        noSuchCell("meltedFor", (y, column, row) -> y.meltedFor(column, row));
    }

    private void promise18Around() {
        FrostPane middle = paneOf(".....", ".###.", ".###.", ".###.", ".....");
        check.same("around(2, 2)", middle.around(2, 2), 8);
        check.same("around(1, 1)", middle.around(1, 1), 3);
        check.same("around(0, 0), one askew", middle.around(0, 0), 1);
        check.same("around(2, 0)", middle.around(2, 0), 3);
        check.same("around(0, 1)", middle.around(0, 1), 2);
        for (int column = 0; column < 3; column++) {
            for (int row = 0; row < 3; row++) {
                boolean itself = column == 1 && row == 1;
                check.same("around(1, 1), one frozen", frozenAlone(3, 3, column, row).around(1, 1), itself ? 0 : 1);
            }
        }
        aroundAtTheFrame();
        noSuchCell("around", (y, column, row) -> y.around(column, row));
    }

    private void aroundAtTheFrame() {
        FrostPane x = new FrostPane();
        x.lay(12, 3);
        x.setFrame(1);
        check.same("around(0, 0), frozen frame", x.around(0, 0), 5);
        check.same("around(11, 0), frozen frame", x.around(11, 0), 5);
        check.same("around(0, 2), frozen frame", x.around(0, 2), 5);
        check.same("around(11, 2), frozen frame", x.around(11, 2), 5);
        check.same("around(5, 0), frozen frame", x.around(5, 0), 3);
        check.same("around(5, 2), frozen frame", x.around(5, 2), 3);
        check.same("around(0, 1), frozen frame", x.around(0, 1), 3);
        check.same("around(11, 1), frozen frame", x.around(11, 1), 3);
        check.same("around(5, 1), frozen frame", x.around(5, 1), 0);
        for (int side = 3; side <= 12; side += 3) {
            FrostPane corner = frozenAlone(side, side, side - 1, side - 1);
            check.same("around(0, 0), clear frame", corner.around(0, 0), 0);
            corner.setFrame(2);
            check.same("around(0, 0), led round", corner.around(0, 0), 1);
            check.same("around(0, last), led round", corner.around(0, side - 1), 1);
            check.same("around(last, 0), led round", corner.around(side - 1, 0), 1);
            check.same("around(last, last), not itself", corner.around(side - 1, side - 1), 0);
            FrostPane first = frozenAlone(side, side, 0, 0);
            first.setFrame(2);
            check.same("around(last, last), led round", first.around(side - 1, side - 1), 1);
            check.same("around(last, 1), led round", first.around(side - 1, 1), 1);
            check.same("around(1, last), led round", first.around(1, side - 1), 1);
        }
        FrostPane full = filled(3, 3);
        full.setFrame(2);
        check.same("around(0, 2), all frozen, led round", full.around(0, 2), 8);
    }

    private void promise19WillFreeze() {
        FrostPane x = blinker();
        check.same("willFreeze(1, 2)", x.willFreeze(1, 2), true);
        check.same("willFreeze(2, 2)", x.willFreeze(2, 2), true);
        check.same("willFreeze(2, 1)", x.willFreeze(2, 1), false);
        check.same("willFreeze(0, 0)", x.willFreeze(0, 0), false);
        FrostPane melting = filled(3, 3);
        melting.breathe(melting.addRule(511, 511));
        melting.press(1, 1, 1);
        check.same("willFreeze(1, 1), melted", melting.willFreeze(1, 1), false);
        check.same("willFreeze(0, 0)", melting.willFreeze(0, 0), true);
        melting.grow(1);
        check.same("willFreeze(1, 1), no more melted", melting.willFreeze(1, 1), true);
        melting.addRule(0, 0);
        melting.breathe(2);
        check.same("willFreeze(0, 0), another breath", melting.willFreeze(0, 0), false);
        FrostPane framed = new FrostPane();
        framed.setFrame(1);
        check.same("willFreeze(0, 4), a frozen frame", framed.willFreeze(0, 4), true);
        check.same("willFreeze(0, 0), a frozen frame", framed.willFreeze(0, 0), false);
        FrostPane wide = paneOf("#....", "#....", "#....", "....#");
        check.same("willFreeze(1, 1)", wide.willFreeze(1, 1), true);
        check.same("willFreeze(4, 3)", wide.willFreeze(4, 3), false);
        check.same("willFreeze(1, 2)", wide.willFreeze(1, 2), false);
        check.same("willFreeze(2, 1)", wide.willFreeze(2, 1), false);
        FrostPane thumbed = filled(6, 5);
        thumbed.breathe(thumbed.addRule(511, 511));
        thumbed.press(4, 1, 2);
        for (int row = 0; row < 5; row++) {
            for (int column = 0; column < 6; column++) {
                boolean pressed = Math.abs(column - 4) + Math.abs(row - 1) <= 1;
                check.same("willFreeze, a thumb at (4, 1)", thumbed.willFreeze(column, row), !pressed);
            }
        }
        noSuchCell("willFreeze", (y, column, row) -> y.willFreeze(column, row));
    }

    private void promise20FrozenInRow() {
        FrostPane x = paneOf("............", "#..........#", "############", ".#.#.#.#.#..");
        check.same("frozenInRow(0)", x.frozenInRow(0), 0);
        check.same("frozenInRow(1)", x.frozenInRow(1), 2);
        check.same("frozenInRow(2)", x.frozenInRow(2), 12);
        check.same("frozenInRow(3)", x.frozenInRow(3), 5);
        for (int wrong : new int[] {-1, 4, 12, 13, Integer.MIN_VALUE, Integer.MAX_VALUE}) {
            unchanged(x, "frozenInRow(wrong)", OUT, y -> y.frozenInRow(wrong));
        }
    }

    // ---- flowers

    private void promises21To23Flowers() {
        FrostPane x = paneOf("##..#", ".#..#", "#...#", "..#..", "###.#");
        check.same("flowers()", x.flowers(), 5);
        check.same("largestFlower()", x.largestFlower(), 4);
        check.same("flowerAt(0, 0)", x.flowerAt(0, 0), 3);
        check.same("flowerAt(1, 1)", x.flowerAt(1, 1), 3);
        check.same("flowerAt(4, 2)", x.flowerAt(4, 2), 3);
        check.same("flowerAt(0, 2), askew to another", x.flowerAt(0, 2), 1);
        check.same("flowerAt(0, 4)", x.flowerAt(0, 4), 4);
        check.same("flowerAt(4, 4)", x.flowerAt(4, 4), 1);
        check.same("flowerAt(2, 2), clear", x.flowerAt(2, 2), 0);
        FrostPane none = new FrostPane();
        check.same("flowers(), none", none.flowers(), 0);
        check.same("largestFlower(), none", none.largestFlower(), 0);
        check.same("flowerAt(0, 0), none", none.flowerAt(0, 0), 0);
        for (int frame = 0; frame <= 2; frame++) {
            FrostPane sides = paneOf("#...#", ".....", "#...#");
            sides.setFrame(frame);
            check.same("flowers(), whatever the frame", sides.flowers(), 4);
            check.same("largestFlower(), whatever the frame", sides.largestFlower(), 1);
            check.same("flowerAt(4, 2), whatever the frame", sides.flowerAt(4, 2), 1);
        }
        windingFlowers();
        noSuchCell("flowerAt", (y, column, row) -> y.flowerAt(column, row));
    }

    private void windingFlowers() {
        FrostPane snake = paneOf(
                "############", "...........#", "############", "#...........", "############", "...........#",
                "############", "#...........", "############", "...........#", "############", "#...........");
        check.same("flowers(), a snake", snake.flowers(), 1);
        check.same("largestFlower(), a snake", snake.largestFlower(), 78);
        check.same("flowerAt(0, 0), a snake", snake.flowerAt(0, 0), 78);
        check.same("flowerAt(0, 11), a snake", snake.flowerAt(0, 11), 78);
        FrostPane spiral = paneOf(
                "############", "...........#", "##########.#", "#........#.#", "#.######.#.#", "#.#....#.#.#",
                "#.#.##.#.#.#", "#.#.#..#.#.#", "#.#.####.#.#", "#.#......#.#", "#.########.#", "#..........#");
        check.same("flowers(), a spiral", spiral.flowers(), 2);
        check.same("flowerAt(0, 0), a spiral", spiral.flowerAt(0, 0), 23);
        check.same("flowerAt(4, 6), a spiral", spiral.flowerAt(4, 6), 55);
        check.same("largestFlower(), a spiral", spiral.largestFlower(), 55);
        FrostPane upward = paneOf("#.#.#.#.#.#.", "#.#.#.#.#.#.", "#.#.#.#.#.#.", "############");
        check.same("flowers(), a comb", upward.flowers(), 1);
        check.same("flowerAt(10, 0), a comb", upward.flowerAt(10, 0), 30);
        check.same("largestFlower(), in the corner", frozenAlone(3, 5, 0, 0).largestFlower(), 1);
        check.same("largestFlower(), in the last corner", frozenAlone(3, 5, 2, 4).largestFlower(), 1);
        check.same("largestFlower(), in the first column", paneOf("#....", "#....", "...##", "#....").largestFlower(), 2);
        check.same("largestFlower(), 12 in the last row", paneOf("#...........", "............", "############").largestFlower(), 12);
        check.same("flowers(), in the corners", paneOf("#...#", ".....", "#...#").flowers(), 4);
        FrostPane board = paneOf("#.#", ".#.", "#.#");
        check.same("flowers(), a board", board.flowers(), 5);
        check.same("largestFlower(), all frozen", filled(12, 12).largestFlower(), 144);
    }

    private void promise24IsMirrored() {
        check.same("isMirrored(), clear", new FrostPane().isMirrored(), true);
        check.same("isMirrored()", paneOf("#..#", ".##.", "....", "####").isMirrored(), true);
        check.same("isMirrored(), the middle column", paneOf("#.#", ".#.", "###").isMirrored(), true);
        check.same("isMirrored(), upside down only", paneOf("##.", "#..", "##.").isMirrored(), false);
        check.same("isMirrored(), turned round only", paneOf("#..", "...", "..#").isMirrored(), false);
        check.same("isMirrored(), the last row not", paneOf("#.#", "#.#", "#..").isMirrored(), false);
        check.same("isMirrored(), one column off", paneOf("#.#.", "....", "....").isMirrored(), false);
        check.same("isMirrored(), 12 columns", paneOf("#..........#", "............", ".....##.....").isMirrored(), true);
        check.same("isMirrored(), the two in the middle", paneOf("............", "......#.....", "............").isMirrored(), false);
        FrostPane melted = new FrostPane();
        melted.press(0, 0, 5);
        check.same("isMirrored(), whatever is melted", melted.isMirrored(), true);
    }

    // ---- what would be

    private void promise25FrozenIn() {
        FrostPane x = paneOf(".....", ".###.", ".###.", ".###.", ".....");
        FrostPane y = paneOf(".....", ".###.", ".###.", ".###.", ".....");
        for (int generations = 1; generations <= 60; generations++) {
            check.same("frozenIn(n), as grow", x.frozenIn(generations), y.grow(1));
        }
        check.same("frozenIn(1)", x.frozenIn(1), 8);
        check.same("frozenIn(2)", x.frozenIn(2), 12);
        check.same("generation()", x.generation(), 0);
        check.same("frozen()", x.frozen(), 9);
        for (int wrong : new int[] {0, 61, -1, Integer.MIN_VALUE, Integer.MAX_VALUE}) {
            unchanged(busy(), "frozenIn(wrong)", ARGUMENT, z -> z.frozenIn(wrong));
        }
        check.same("frozenIn(60)", blinker().frozenIn(60), 3);
    }

    private void promise26ComesAgainIn() {
        check.same("comesAgainIn(), a clear pane", new FrostPane().comesAgainIn(), 1);
        check.same("comesAgainIn(), a block", paneOf("....", ".##.", ".##.", "....").comesAgainIn(), 1);
        check.same("comesAgainIn(), a blinker", blinker().comesAgainIn(), 2);
        check.same("comesAgainIn(), one that melts away", frozenAlone(5, 5, 2, 2).comesAgainIn(), -1);
        FrostPane melted = new FrostPane();
        melted.press(4, 4, 1);
        check.same("comesAgainIn(), melted cells", melted.comesAgainIn(), -1);
        check.same("comesAgainIn(), a glider round 10, just by then", glider(10).comesAgainIn(), 40);
        check.same("comesAgainIn(), a glider round 11, not by then", glider(11).comesAgainIn(), -1);
        check.same("comesAgainIn(), a glider round 7", glider(7).comesAgainIn(), 28);
        FrostPane x = filled(3, 3);
        x.breathe(x.addRule(511, 0));
        check.same("comesAgainIn(), all to and fro", x.comesAgainIn(), 2);
        check.same("generation()", x.generation(), 0);
    }

    private void promise27StandsStillIn() {
        check.same("standsStillIn(), a clear pane", new FrostPane().standsStillIn(), 0);
        check.same("standsStillIn(), a block", paneOf("....", ".##.", ".##.", "....").standsStillIn(), 0);
        check.same("standsStillIn(), a blinker", blinker().standsStillIn(), -1);
        check.same("standsStillIn(), one cell alone", frozenAlone(5, 5, 2, 2).standsStillIn(), 1);
        for (int generations = 1; generations <= 9; generations++) {
            FrostPane melted = new FrostPane();
            melted.press(4, 4, generations);
            check.same("standsStillIn(), melted cells alone", melted.standsStillIn(), generations);
            FrostPane filling = filled(8, 8);
            filling.breathe(filling.addRule(511, 511));
            filling.press(4, 4, generations);
            check.same("standsStillIn(), freezing again", filling.standsStillIn(), generations + 1);
        }
        check.same("standsStillIn(), a snail's way of 40", snail(40).standsStillIn(), 40);
        check.same("standsStillIn(), a snail's way of 41", snail(41).standsStillIn(), -1);
        check.same("standsStillIn(), a snail's way of 39", snail(39).standsStillIn(), 39);
    }

    private void promise28PeakIn() {
        check.same("peakIn(60), always as many", blinker().peakIn(60), 0);
        check.same("peakIn(60), a clear pane", new FrostPane().peakIn(60), 0);
        FrostPane alone = frozenAlone(12, 12, 0, 0);
        alone.breathe(alone.addRule(510, 511));
        for (int generations = 1; generations <= 10; generations++) {
            check.same("peakIn(n), more each generation", alone.peakIn(generations), generations);
        }
        check.same("peakIn(11)", alone.peakIn(11), 11);
        check.same("peakIn(60), of several the fewest", alone.peakIn(60), 11);
        FrostPane toAndFro = new FrostPane();
        toAndFro.breathe(toAndFro.addRule(511, 0));
        check.same("peakIn(1)", toAndFro.peakIn(1), 1);
        check.same("peakIn(9), of several the fewest", toAndFro.peakIn(9), 1);
        toAndFro.grow(1);
        check.same("peakIn(9), now", toAndFro.peakIn(9), 0);
        check.same("peakIn(60), just the last", snail(60).peakIn(60), 60);
        for (int wrong : new int[] {0, 61, -1, Integer.MIN_VALUE, Integer.MAX_VALUE}) {
            unchanged(busy(), "peakIn(wrong)", ARGUMENT, z -> z.peakIn(wrong));
        }
    }

    private void promise29BestBreath() {
        FrostPane x = paneOf(".....", ".###.", ".....", ".....", ".....");
        check.same("bestBreath(1), one rule", x.bestBreath(1), 0);
        x.addRule(0, 0);
        check.same("bestBreath(1), the first is better", x.bestBreath(1), 0);
        x.addRule(8, 12);
        check.same("bestBreath(20), of several the smallest", x.bestBreath(20), 0);
        x.addRule(511, 0);
        check.same("bestBreath(1), the most", x.bestBreath(1), 3);
        check.same("bestBreath(2), all freeze and thaw", x.bestBreath(2), 0);
        x.addRule(511, 511);
        check.same("bestBreath(1)", x.bestBreath(1), 4);
        check.same("bestBreath(20)", x.bestBreath(20), 4);
        x.addRule(511, 511);
        check.same("bestBreath(20), of several the smallest", x.bestBreath(20), 4);
        x.breathe(1);
        check.same("bestBreath(20), whatever the breath is", x.bestBreath(20), 4);
        check.same("breath()", x.breath(), 1);
        FrostPane none = new FrostPane();
        none.addRule(0, 0);
        none.breathe(1);
        check.same("bestBreath(5), none freezes", none.bestBreath(5), 0);
        FrostPane toAndFro = new FrostPane();
        toAndFro.addRule(511, 0);
        check.same("bestBreath(19), all frozen then", toAndFro.bestBreath(19), 1);
        check.same("bestBreath(20), all clear then", toAndFro.bestBreath(20), 0);
        check.same("bestBreath(20), slow ones", snail(20).bestBreath(20), 1);
        for (int wrong : new int[] {0, 21, -1, Integer.MIN_VALUE, Integer.MAX_VALUE}) {
            unchanged(busy(), "bestBreath(wrong)", ARGUMENT, z -> z.bestBreath(wrong));
        }
    }

    private void promise30MeanInRows() {
        check.same("meanInRows(), none", new FrostPane().meanInRows(), 0.0);
        check.same("meanInRows(), all", filled(12, 5).meanInRows(), 12.0);
        check.same("meanInRows(), a part", paneOf("##.", "#..", "...", "#..").meanInRows(), 1.0);
        check.same("meanInRows(), below one", paneOf("#...", "....", "....").meanInRows(), 1.0 / 3);
        check.same("meanInRows(), by rows and not columns", paneOf("####", "##..", "#...").meanInRows(), 7.0 / 3);
        check.same("meanInRows(), a half", paneOf("#.....", "......", "......", "....#.").meanInRows(), 0.5);
    }

    private void promise31Digest() {
        check.same("digest(), a new object", new FrostPane().digest(), digestByAnswers(new FrostPane()));
        check.same("digest(), the smallest", paneOf("...", "...", "...").digest(), digestByAnswers(paneOf("...", "...", "...")));
        check.same("digest(), a blinker", blinker().digest(), digestByAnswers(blinker()));
        check.same("digest(), all in use", busy().digest(), digestByAnswers(busy()));
        check.same("digest(), a full pane", filled(12, 12).digest(), digestByAnswers(filled(12, 12)));
        check.same("digest(), a glider", glider(10).digest(), digestByAnswers(glider(10)));
        FrostPane odd = new FrostPane();
        odd.addRule(511, 0);
        check.same("bestBreath(5), not as (4) or (6)", odd.bestBreath(5), 1);
        check.same("bestBreath(4)", odd.bestBreath(4), 0);
        check.same("bestBreath(6)", odd.bestBreath(6), 0);
        check.same("digest(), the breath of 5 generations", odd.digest(), digestByAnswers(odd));
        check.same("digest(), far from others", new FrostPane().digest() == busy().digest(), false);
    }

    private static long digestByAnswers(FrostPane x) {
        long[] first = {x.columns(), x.rows(), x.generation(), x.rules(), x.breath(), x.frozen(), x.melted(),
            x.flowers(), x.largestFlower(), x.isMirrored() ? 1 : 0, x.comesAgainIn(), x.standsStillIn(), x.bestBreath(5)};
        long d = 2203;
        for (long number : first) {
            d = d * 31 + number;
        }
        for (int row = 0; row < x.rows(); row++) {
            d = d * 31 + x.frozenInRow(row);
            for (int column = 0; column < x.columns(); column++) {
                d = d * 31 + (x.isFrozen(column, row) ? 1 : 0);
                d = d * 31 + x.meltedFor(column, row);
                d = d * 31 + x.around(column, row);
                d = d * 31 + (x.willFreeze(column, row) ? 1 : 0);
            }
        }
        return d;
    }

    // ---- all together

    private void lookingChangesNothing() {
        unmoved("frozenIn", y -> y.frozenIn(60));
        unmoved("comesAgainIn", FrostPane::comesAgainIn);
        unmoved("standsStillIn", FrostPane::standsStillIn);
        unmoved("peakIn", y -> y.peakIn(60));
        unmoved("bestBreath", y -> y.bestBreath(20));
        unmoved("flowers", FrostPane::flowers);
        unmoved("largestFlower", FrostPane::largestFlower);
        unmoved("flowerAt", y -> y.flowerAt(2, 2));
        unmoved("willFreeze", y -> y.willFreeze(2, 2));
        unmoved("digest", FrostPane::digest);
    }

    private void objectsAreApart() {
        FrostPane one = new FrostPane();
        FrostPane other = new FrostPane();
        one.turn(0, 0);
        one.press(5, 5, 9);
        one.addRule(511, 511);
        one.setFrame(1);
        check.same("digest() of another object", other.digest(), new FrostPane().digest());
        check.same("setFrame(0) of another object", other.setFrame(0), 0);
    }

    private interface Call {
        Object on(FrostPane pane);
    }

    private interface CellCall {
        Object on(FrostPane pane, int column, int row);
    }

    private void noSuchCell(String name, CellCall call) {
        for (int far : FAR) {
            unchanged(busy(), name + "(" + far + ", 0)", OUT, y -> call.on(y, far, 0));
            unchanged(busy(), name + "(0, " + far + ")", OUT, y -> call.on(y, 0, far));
            unchanged(busy(), name + "(" + far + ", " + far + ")", OUT, y -> call.on(y, far, far));
        }
        unchanged(busy(), name + "(7, 0), one column too many", OUT, y -> call.on(y, 7, 0));
        unchanged(busy(), name + "(0, 6), one row too many", OUT, y -> call.on(y, 0, 6));
        unchanged(busy(), name + "(0, 7), columns are not rows", OUT, y -> call.on(y, 0, 7));
    }

    private void unchanged(FrostPane x, String name, Class<? extends RuntimeException> due, Call call) {
        String before = state(x);
        check.fails(name, due, () -> call.on(x));
        check.same("all behind " + name, state(x), before);
    }

    private void unmoved(String name, Call call) {
        FrostPane x = busy();
        String before = state(x);
        call.on(x);
        check.same("all behind " + name, state(x), before);
        check.same("frozen() grown behind " + name, x.grow(2), busy().grow(2));
    }

    private static String state(FrostPane x) {
        StringBuilder text = new StringBuilder(picture(x));
        for (int generations = 1; generations <= 5; generations++) {
            text.append(' ').append(x.frozenIn(generations));
        }
        return text.append(' ').append(x.digest()).toString();
    }

    /** Whether a cell with so many frozen ones around it will be frozen behind a generation. */
    private static boolean willFreezeWith(FrostPane x, boolean frozen, int around) {
        int left = around;
        for (int row = 3; row <= 5; row++) {
            for (int column = 3; column <= 5; column++) {
                boolean itself = row == 4 && column == 4;
                if (itself ? frozen : left > 0) {
                    x.turn(column, row);
                    left -= itself ? 0 : 1;
                }
            }
        }
        return x.willFreeze(4, 4);
    }

    private static FrostPane paneOf(String... rows) {
        FrostPane x = new FrostPane();
        x.lay(rows[0].length(), rows.length);
        for (int row = 0; row < rows.length; row++) {
            for (int column = 0; column < rows[row].length(); column++) {
                if (rows[row].charAt(column) == '#') {
                    x.turn(column, row);
                }
            }
        }
        return x;
    }

    private static String picture(FrostPane x) {
        StringBuilder text = new StringBuilder();
        for (int row = 0; row < x.rows(); row++) {
            text.append(row > 0 ? "/" : "");
            for (int column = 0; column < x.columns(); column++) {
                text.append(x.isFrozen(column, row) ? '#' : '.');
            }
        }
        return text.toString();
    }

    /** Neither as at first in anything: 7 columns, 6 rows, 3 rules, a frozen frame, frozen and melted cells. */
    private static FrostPane busy() {
        FrostPane x = paneOf(".......", ".##....", ".#.#...", "..#....", ".......", "....##.");
        x.setFrame(1);
        x.addRule(8, 28);
        x.addRule(68, 511);
        x.breathe(1);
        x.grow(3);
        x.press(5, 5, 7);
        x.press(0, 0, 2);
        return x;
    }

    private static FrostPane blinker() {
        return paneOf(".....", "..#..", "..#..", "..#..", ".....");
    }

    private static FrostPane filled(int columns, int rows) {
        String row = "#".repeat(columns);
        String[] all = new String[rows];
        java.util.Arrays.fill(all, row);
        return paneOf(all);
    }

    private static FrostPane frozenAlone(int columns, int rows, int column, int row) {
        FrostPane x = new FrostPane();
        x.lay(columns, rows);
        x.turn(column, row);
        return x;
    }

    /** It is as before, one cell further on, each 4 generations. */
    private static FrostPane glider(int side) {
        FrostPane x = new FrostPane();
        x.lay(side, side);
        x.setFrame(2);
        x.turn(1, 0);
        x.turn(2, 1);
        x.turn(0, 2);
        x.turn(1, 2);
        x.turn(2, 2);
        return x;
    }

    /** Frozen cells come to it, and none thaw, for so many generations, 66 at most; then it stands still. */
    private static FrostPane snail(int generations) {
        FrostPane x = frozenAlone(12, 12, 9, 11);
        x.setFrame(1);
        x.breathe(x.addRule(400, 511));
        x.grow(66 - generations);
        return x;
    }
}
