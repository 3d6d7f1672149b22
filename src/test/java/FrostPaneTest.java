/** Ordinary inputs, promise by promise; edges and wrong inputs are tested in the classes that begin with "EdgesOf". */
public final class FrostPaneTest {
    private final Check check = new Check("FrostPaneTest");

    public static void main(String[] args) {
        new FrostPaneTest().all();
    }

    private void all() {
        promise1NewObject();
        promise2Lay();
        promise3Turn();
        promise4Press();
        promise5SetFrame();
        promise6AddRule();
        promise7Breathe();
        promise8Grow();
        promises9To15WhatThereIs();
        promises16To20Cells();
        promise18Around();
        promise19WillFreeze();
        promises21To23Flowers();
        windingFlowers();
        promise24IsMirrored();
        promise25FrozenIn();
        promise26ComesAgainIn();
        promise27StandsStillIn();
        promise28PeakIn();
        promise29BestBreath();
        promise30MeanInRows();
        promise31Digest();
        lookingChangesNothing();
        objectsAreApart();
        check.end();
    }

    // ---- the pane

    private void promise1NewObject() {
        FrostPane x = new FrostPane();
        check.same("columns()", x.columns(), 8);
        check.same("rows()", x.rows(), 8);
        check.same("generation()", x.generation(), 0);
        check.same("rules()", x.rules(), 1);
        check.same("breath()", x.breath(), 0);
        check.same("frozen()", x.frozen(), 0);
        check.same("melted()", x.melted(), 0);
        check.same("setFrame(0), the one before", x.setFrame(0), 0);
    }

    private void promise2Lay() {
        FrostPane x = Panes.busy();
        int generation = x.generation();
        check.same("lay(9, 10)", x.lay(9, 10), 90);
        check.same("columns()", x.columns(), 9);
        check.same("rows()", x.rows(), 10);
        check.same("frozen() behind lay", x.frozen(), 0);
        check.same("melted() behind lay", x.melted(), 0);
        check.same("generation() behind lay", x.generation(), generation);
        check.same("rules() behind lay", x.rules(), 3);
        check.same("breath() behind lay", x.breath(), 1);
        check.same("setFrame(0) behind lay", x.setFrame(0), 1);
    }

    private void promise3Turn() {
        FrostPane x = Panes.clear(6, 4);
        check.same("turn(4, 2)", x.turn(4, 2), true);
        check.same("isFrozen(4, 2)", x.isFrozen(4, 2), true);
        check.same("frozen()", x.frozen(), 1);
        check.same("turn(4, 2)", x.turn(4, 2), false);
        check.same("isFrozen(4, 2)", x.isFrozen(4, 2), false);
        check.same("frozen()", x.frozen(), 0);
    }

    private void promise4Press() {
        FrostPane x = Panes.filled(5, 4);
        check.same("press(2, 1, 3)", x.press(2, 1, 3), 5);
        check.same("frozen()", x.frozen(), 15);
        check.same("melted()", x.melted(), 5);
        check.same("pane", Panes.picture(x), "##.##/#...#/##.##/#####");
        check.same("press(3, 1, 1), two melted before", x.press(3, 1, 1), 3);
        check.same("melts", Panes.melts(x), "00310/03111/00310/00000");
    }

    private void promise5SetFrame() {
        FrostPane x = new FrostPane();
        check.same("setFrame(2)", x.setFrame(2), 0);
        check.same("setFrame(1)", x.setFrame(1), 2);
        check.same("setFrame(0)", x.setFrame(0), 1);
    }

    private void promise6AddRule() {
        FrostPane x = new FrostPane();
        check.same("addRule(64, 3)", x.addRule(64, 3), 1);
        check.same("addRule(8, 12), one as before", x.addRule(8, 12), 2);
        check.same("rules()", x.rules(), 3);
        check.same("breath(), as before", x.breath(), 0);
        for (int number = 0; number < 512; number += 7) {
            check.same("the rules", Panes.ruleNumbers(Panes.breathing(new FrostPane(), number, 511 - number)),
                    " 8/12 " + number + "/" + (511 - number));
        }
    }

    private void promise7Breathe() {
        FrostPane x = new FrostPane();
        x.addRule(511, 511);
        x.addRule(0, 0);
        check.same("breathe(2)", x.breathe(2), 0);
        check.same("breath()", x.breath(), 2);
        check.same("grow(1)", x.grow(1), 0);
        check.same("breathe(1)", x.breathe(1), 2);
        check.same("grow(1)", x.grow(1), 64);
    }

    private void promise8Grow() {
        FrostPane x = Panes.blinker();
        check.same("grow(1)", x.grow(1), 3);
        check.same("pane", Panes.picture(x), "...../...../.###./...../.....");
        check.same("grow(59)", x.grow(59), 3);
        check.same("pane", Panes.picture(x), "...../..#../..#../..#../.....");
        check.same("generation()", x.generation(), 60);
        growsAtTheFrame();
        meltedCellsStayClear();
    }

    private void growsAtTheFrame() {
        FrostPane clear = Panes.of("#.#", "...", "...", "#..");
        check.same("grow(1), a clear frame", clear.grow(1), 0);
        FrostPane frozen = Panes.framed(Panes.of("...", "...", "...", "..."), 1);
        check.same("grow(1), a frozen frame", frozen.grow(1), 6);
        check.same("pane", Panes.picture(frozen), ".#./#.#/#.#/.#.");
        FrostPane round = Panes.framed(Panes.of("#..#", "....", "....", "#..."), 2);
        check.same("grow(1), a frame that leads round", round.grow(1), 4);
        check.same("pane", Panes.picture(round), "#..#/..../..../#..#");
    }

    private void meltedCellsStayClear() {
        FrostPane x = Panes.breathing(Panes.clear(3, 3), 511, 511);
        x.press(0, 0, 1);
        x.press(2, 2, 2);
        check.same("grow(1)", x.grow(1), 3);
        check.same("pane", Panes.picture(x), "..#/.#./#..");
        check.same("melts", Panes.melts(x), "000/001/011");
        check.same("grow(1)", x.grow(1), 6);
        check.same("pane", Panes.picture(x), "###/##./#..");
        check.same("melted()", x.melted(), 0);
        check.same("grow(1)", x.grow(1), 9);
    }

    // ---- what there is, and cells

    private void promises9To15WhatThereIs() {
        FrostPane x = Panes.busy();
        check.same("columns()", x.columns(), 7);
        check.same("rows()", x.rows(), 6);
        check.same("generation()", x.generation(), 3);
        check.same("rules()", x.rules(), 3);
        check.same("breath()", x.breath(), 1);
        check.same("melted()", x.melted(), 7);
        check.same("frozen()", Panes.of("##.#", "...#", "#.#.").frozen(), 6);
    }

    private void promises16To20Cells() {
        FrostPane x = Panes.of("#..#", ".#..", "..##", "###.", "....");
        check.same("isFrozen(3, 0)", x.isFrozen(3, 0), true);
        check.same("isFrozen(0, 3)", x.isFrozen(0, 3), true);
        check.same("isFrozen(2, 1)", x.isFrozen(2, 1), false);
        check.same("frozenInRow(1)", x.frozenInRow(1), 1);
        check.same("frozenInRow(3)", x.frozenInRow(3), 3);
        check.same("meltedFor(2, 2)", x.meltedFor(2, 2), 0);
        x.press(2, 2, 4);
        x.grow(1);
        check.same("meltedFor(2, 2)", x.meltedFor(2, 2), 3);
        check.same("meltedFor(2, 1)", x.meltedFor(2, 1), 3);
        check.same("meltedFor(1, 1)", x.meltedFor(1, 1), 0);
    }

    private void promise18Around() {
        FrostPane x = Panes.of(".....", ".###.", ".###.", ".###.", ".....");
        check.same("around(2, 2)", x.around(2, 2), 8);
        check.same("around(1, 1)", x.around(1, 1), 3);
        check.same("around(0, 0), one askew", x.around(0, 0), 1);
        check.same("around(2, 0)", x.around(2, 0), 3);
        check.same("around(0, 1)", x.around(0, 1), 2);
    }

    private void promise19WillFreeze() {
        FrostPane x = Panes.blinker();
        check.same("willFreeze(1, 2)", x.willFreeze(1, 2), true);
        check.same("willFreeze(2, 2)", x.willFreeze(2, 2), true);
        check.same("willFreeze(2, 1)", x.willFreeze(2, 1), false);
        check.same("willFreeze(0, 0)", x.willFreeze(0, 0), false);
        FrostPane framed = Panes.framed(new FrostPane(), 1);
        check.same("willFreeze(0, 4), a frozen frame", framed.willFreeze(0, 4), true);
        check.same("willFreeze(0, 0), a frozen frame", framed.willFreeze(0, 0), false);
        FrostPane thumbed = Panes.breathing(Panes.filled(6, 5), 511, 511);
        thumbed.press(4, 1, 2);
        for (int row = 0; row < 5; row++) {
            for (int column = 0; column < 6; column++) {
                boolean pressed = Math.abs(column - 4) + Math.abs(row - 1) <= 1;
                check.same("willFreeze, a thumb at (4, 1)", thumbed.willFreeze(column, row), !pressed);
            }
        }
    }

    // ---- flowers

    private void promises21To23Flowers() {
        FrostPane x = Panes.of("##..#", ".#..#", "#...#", "..#..", "###.#");
        check.same("flowers()", x.flowers(), 5);
        check.same("largestFlower()", x.largestFlower(), 4);
        check.same("flowerAt(0, 0)", x.flowerAt(0, 0), 3);
        check.same("flowerAt(1, 1)", x.flowerAt(1, 1), 3);
        check.same("flowerAt(4, 2)", x.flowerAt(4, 2), 3);
        check.same("flowerAt(0, 2), askew to another", x.flowerAt(0, 2), 1);
        check.same("flowerAt(0, 4)", x.flowerAt(0, 4), 4);
        check.same("flowerAt(4, 4)", x.flowerAt(4, 4), 1);
        check.same("flowerAt(2, 2), clear", x.flowerAt(2, 2), 0);
    }

    private void windingFlowers() {
        FrostPane snake = Panes.snake();
        check.same("flowers(), a snake", snake.flowers(), 1);
        check.same("largestFlower(), a snake", snake.largestFlower(), 78);
        check.same("flowerAt(0, 0), a snake", snake.flowerAt(0, 0), 78);
        check.same("flowerAt(0, 11), a snake", snake.flowerAt(0, 11), 78);
        FrostPane spiral = Panes.of(
                "############", "...........#", "##########.#", "#........#.#", "#.######.#.#", "#.#....#.#.#",
                "#.#.##.#.#.#", "#.#.#..#.#.#", "#.#.####.#.#", "#.#......#.#", "#.########.#", "#..........#");
        check.same("flowers(), a spiral", spiral.flowers(), 2);
        check.same("flowerAt(0, 0), a spiral", spiral.flowerAt(0, 0), 23);
        check.same("flowerAt(4, 6), a spiral", spiral.flowerAt(4, 6), 55);
        check.same("largestFlower(), a spiral", spiral.largestFlower(), 55);
        FrostPane comb = Panes.of("#.#.#.#.#.#.", "#.#.#.#.#.#.", "#.#.#.#.#.#.", "############");
        check.same("flowers(), a comb", comb.flowers(), 1);
        check.same("flowerAt(10, 0), a comb", comb.flowerAt(10, 0), 30);
    }

    private void promise24IsMirrored() {
        check.same("isMirrored()", Panes.of("#..#", ".##.", "....", "####").isMirrored(), true);
        check.same("isMirrored(), the middle column", Panes.of("#.#", ".#.", "###").isMirrored(), true);
        check.same("isMirrored(), upside down only", Panes.of("##.", "#..", "##.").isMirrored(), false);
        check.same("isMirrored(), one column off", Panes.of("#.#.", "....", "....").isMirrored(), false);
        check.same("isMirrored(), whatever is melted", Panes.pressed(new FrostPane(), 0, 0, 5).isMirrored(), true);
    }

    // ---- what would be

    private void promise25FrozenIn() {
        FrostPane x = Panes.of(".....", ".###.", ".###.", ".###.", ".....");
        check.same("frozenIn(1)", x.frozenIn(1), 8);
        check.same("frozenIn(2)", x.frozenIn(2), 12);
        check.same("generation()", x.generation(), 0);
        check.same("frozen()", x.frozen(), 9);
        check.same("frozenIn(60)", Panes.blinker().frozenIn(60), 3);
    }

    private void promise26ComesAgainIn() {
        check.same("comesAgainIn(), a block", Panes.block().comesAgainIn(), 1);
        check.same("comesAgainIn(), a blinker", Panes.blinker().comesAgainIn(), 2);
        check.same("comesAgainIn(), a glider round 7", Panes.glider(7).comesAgainIn(), 28);
        check.same("comesAgainIn(), one that melts away", Panes.alone(5, 5, 2, 2).comesAgainIn(), -1);
        check.same("comesAgainIn(), melted cells", Panes.pressed(new FrostPane(), 4, 4, 1).comesAgainIn(), -1);
    }

    private void promise27StandsStillIn() {
        check.same("standsStillIn(), a block", Panes.block().standsStillIn(), 0);
        check.same("standsStillIn(), a blinker", Panes.blinker().standsStillIn(), -1);
        check.same("standsStillIn(), one cell alone", Panes.alone(5, 5, 2, 2).standsStillIn(), 1);
        check.same("standsStillIn(), a snail's way of 23", Panes.snail(23).standsStillIn(), 23);
        FrostPane filling = Panes.breathing(Panes.filled(8, 8), 511, 511);
        check.same("standsStillIn(), freezing again", Panes.pressed(filling, 4, 4, 6).standsStillIn(), 7);
    }

    private void promise28PeakIn() {
        check.same("peakIn(60), always as many", Panes.blinker().peakIn(60), 0);
        FrostPane alone = Panes.breathing(Panes.alone(12, 12, 0, 0), 510, 511);
        check.same("peakIn(5), more each generation", alone.peakIn(5), 5);
        check.same("peakIn(60), all frozen from 11 on", alone.peakIn(60), 11);
        FrostPane up = Panes.of(".....", ".###.", ".###.", ".###.", ".....");
        check.same("peakIn(3), fewer and more", up.peakIn(3), 2);
        check.same("peakIn(9), more and fewer", up.peakIn(9), 4);
    }

    private void promise29BestBreath() {
        FrostPane x = Panes.of(".....", ".###.", ".....", ".....", ".....");
        check.same("bestBreath(1), one rule", x.bestBreath(1), 0);
        x.addRule(0, 0);
        check.same("bestBreath(1), the first is better", x.bestBreath(1), 0);
        x.addRule(8, 12);
        check.same("bestBreath(20), of several the smallest", x.bestBreath(20), 0);
        x.addRule(511, 0);
        check.same("bestBreath(1), the most", x.bestBreath(1), 3);
        check.same("bestBreath(2), all freeze and thaw", x.bestBreath(2), 0);
        x.addRule(511, 511);
        check.same("bestBreath(20)", x.bestBreath(20), 4);
        check.same("breath()", x.breath(), 0);
    }

    private void promise30MeanInRows() {
        check.same("meanInRows(), a part", Panes.of("##.", "#..", "...", "#..").meanInRows(), 1.0);
        check.same("meanInRows(), by rows and not columns", Panes.of("####", "##..", "#...").meanInRows(), 7.0 / 3);
        check.same("meanInRows(), a half", Panes.of("#.....", "......", "......", "....#.").meanInRows(), 0.5);
    }

    private void promise31Digest() {
        // The checksum of a new object, by its numbers alone: clear cells are told by 0s.
        long d = 2203;
        for (int number : new int[] {8, 8, 0, 1, 0, 0, 0, 0, 0, 1, 1, 0, 0}) {
            d = d * 31 + number;
        }
        for (int zeros = 0; zeros < 8 * (1 + 8 * 4); zeros++) {
            d = d * 31;
        }
        check.same("digest()", new FrostPane().digest(), d);
        check.same("digest(), far from another", Panes.busy().digest() == d, false);
    }

    // ---- all together

    private void lookingChangesNothing() {
        check.changesNothing("frozenIn", Panes::busy, y -> y.frozenIn(31));
        check.changesNothing("comesAgainIn", Panes::busy, FrostPane::comesAgainIn);
        check.changesNothing("standsStillIn", Panes::busy, FrostPane::standsStillIn);
        check.changesNothing("peakIn", Panes::busy, y -> y.peakIn(31));
        check.changesNothing("bestBreath", Panes::busy, y -> y.bestBreath(11));
        check.changesNothing("flowers", Panes::busy, FrostPane::flowers);
        check.changesNothing("largestFlower", Panes::busy, FrostPane::largestFlower);
        check.changesNothing("flowerAt", Panes::busy, y -> y.flowerAt(2, 2));
        check.changesNothing("isMirrored", Panes::busy, FrostPane::isMirrored);
        check.changesNothing("around", Panes::busy, y -> y.around(2, 2));
        check.changesNothing("willFreeze", Panes::busy, y -> y.willFreeze(2, 2));
        check.changesNothing("meanInRows", Panes::busy, FrostPane::meanInRows);
        check.changesNothing("digest", Panes::busy, FrostPane::digest);
    }

    private void objectsAreApart() {
        FrostPane one = new FrostPane();
        FrostPane other = new FrostPane();
        one.turn(0, 0);
        one.press(5, 5, 9);
        one.addRule(511, 511);
        one.setFrame(1);
        check.same("all of another object", Panes.all(other), Panes.all(new FrostPane()));
    }
}
