import java.math.BigInteger;
import java.util.function.Supplier;

/** A test of its own for each sentence of the promises 25 to 31 that names a boundary. */
public final class EdgesOfWhatWouldBeTest {
    private final Check check = new Check("EdgesOfWhatWouldBeTest");
    private final Edges edges = new Edges(check);

    public static void main(String[] args) {
        EdgesOfWhatWouldBeTest test = new EdgesOfWhatWouldBeTest();
        test.promise25FrozenIn();
        test.promise26ComesAgainIn();
        test.promise27StandsStillIn();
        test.promise27Melted();
        test.promise28PeakIn();
        test.promise29BestBreath();
        test.promise30MeanInRows();
        test.promise31Digest();
        test.check.end();
    }

    private void promise25FrozenIn() {
        check.sentence("25: how many cells are frozen behind them: 1 to 60, as when they go by");
        asGrown(Panes::busy);
        asGrown(() -> Panes.snail(66));
        asGrown(() -> Panes.glider(7));
        asGrown(() -> Panes.pressed(Panes.breathing(Panes.filled(5, 5), 511, 511), 2, 2, 9));

        check.sentence("25: how many cells are frozen behind them: none, and all");
        check.same("frozenIn(1), nothing frozen", new FrostPane().frozenIn(1), 0);
        check.same("frozenIn(60), nothing frozen", new FrostPane().frozenIn(60), 0);
        check.same("frozenIn(1), all frozen", Panes.breathing(Panes.filled(12, 12), 0, 511).frozenIn(1), 144);
        check.same("frozenIn(60), all frozen", Panes.breathing(Panes.filled(12, 12), 0, 511).frozenIn(60), 144);

        check.sentence("25: (nothing is changed)");
        check.changesNothing("frozenIn(1)", Panes::busy, x -> x.frozenIn(1));
        check.changesNothing("frozenIn(60)", Panes::busy, x -> x.frozenIn(60));

        check.sentence("25: if generations is not 1 to 60");
        edges.takesNumbers("frozenIn(n)", 1, 60, Panes::busy, (x, n) -> x.frozenIn(n));
        edges.refusesNumbers("frozenIn(n)", 1, 60, Edges.ARGUMENT, Panes::busy, (x, n) -> x.frozenIn(n));
    }

    private void asGrown(Supplier<FrostPane> maker) {
        FrostPane x = maker.get();
        FrostPane grown = maker.get();
        for (int generations = 1; generations <= 60; generations++) {
            check.same("frozenIn(" + generations + ")", x.frozenIn(generations), grown.grow(1));
        }
    }

    private void promise26ComesAgainIn() {
        check.sentence("26: 1 to 40: 1, as nothing changes");
        check.same("comesAgainIn(), nothing frozen", new FrostPane().comesAgainIn(), 1);
        check.same("comesAgainIn(), all frozen", Panes.breathing(Panes.filled(12, 12), 0, 511).comesAgainIn(), 1);
        check.same("comesAgainIn(), a block", Panes.block().comesAgainIn(), 1);

        check.sentence("26: 1 to 40: 2, the first time of several");
        check.same("comesAgainIn(), a blinker", Panes.blinker().comesAgainIn(), 2);
        check.same("comesAgainIn(), to and fro", Panes.breathing(Panes.filled(3, 12), 511, 0).comesAgainIn(), 2);

        check.sentence("26: 1 to 40: 40 still, under each frame");
        check.same("comesAgainIn(), 39", round39().comesAgainIn(), 39);
        check.same("comesAgainIn(), 40, frame 0",
                Panes.breathing(Panes.of("....", "...#", "..##"), 429, 1).comesAgainIn(), 40);
        check.same("comesAgainIn(), 40, frame 1",
                Panes.framed(Panes.breathing(Panes.of("....", "....", "..#."), 451, 51), 1).comesAgainIn(), 40);
        check.same("comesAgainIn(), 40, frame 2",
                Panes.framed(Panes.breathing(Panes.of("....", ".##.", "..#.", ".#.."), 267, 44), 2).comesAgainIn(), 40);
        check.same("comesAgainIn(), 40, a glider", Panes.glider(10).comesAgainIn(), 40);

        check.sentence("26: -1 if not by then: 41 is too late, under each frame");
        check.same("comesAgainIn(), 41, frame 0",
                Panes.breathing(Panes.of("#...", ".###", ".###", ".###"), 90, 85).comesAgainIn(), -1);
        check.same("comesAgainIn(), 41, frame 1",
                Panes.framed(Panes.breathing(Panes.of("#.#..", ".#.#.", ".#..."), 175, 152), 1).comesAgainIn(), -1);
        check.same("comesAgainIn(), 41, frame 2", round41().comesAgainIn(), -1);
        check.same("comesAgainIn(), 44, a glider", Panes.glider(11).comesAgainIn(), -1);

        check.sentence("26: -1 if not by then: never, as all thaws");
        check.same("comesAgainIn()", Panes.alone(3, 3, 0, 0).comesAgainIn(), -1);

        check.sentence("26: frozen cells are all as they are now: not only as many");
        FrostPane moves = Panes.breathing(Panes.of("#....", "#....", "....."), 0, 511);
        check.same("comesAgainIn()", moves.comesAgainIn(), 1);
        check.same("frozenIn(2), as many", Panes.glider(12).frozenIn(2), 5);
        check.same("comesAgainIn(), as many, elsewhere", Panes.glider(12).comesAgainIn(), -1);

        check.sentence("26: melted ones for as long: not with fewer to go");
        for (int generations = 1; generations <= 9; generations++) {
            FrostPane melted = Panes.pressed(new FrostPane(), 7, 7, generations);
            check.same("comesAgainIn(), melted for " + generations, melted.comesAgainIn(), -1);
            check.same("comesAgainIn(), no more melted", Panes.grown(melted, generations).comesAgainIn(), 1);
        }

        check.sentence("26: melted ones for as long: all of them, one alone at each place");
        for (int cell = 0; cell < 36; cell++) {
            check.same("comesAgainIn(), 12 by 3", Panes.meltedAlone(12, 3, cell % 12, cell / 12).comesAgainIn(), -1);
            check.same("comesAgainIn(), 3 by 12", Panes.meltedAlone(3, 12, cell % 3, cell / 3).comesAgainIn(), -1);
        }

        check.sentence("26: frozen ones: all of them, one alone at each place");
        for (int cell = 0; cell < 36; cell++) {
            check.same("comesAgainIn(), 12 by 3", Panes.alone(12, 3, cell % 12, cell / 12).comesAgainIn(), -1);
            check.same("comesAgainIn(), 3 by 12", Panes.alone(3, 12, cell % 3, cell / 3).comesAgainIn(), -1);
        }

        check.sentence("26: (nothing is changed)");
        check.changesNothing("comesAgainIn()", Panes::busy, FrostPane::comesAgainIn);
        check.changesNothing("comesAgainIn(), 40", () -> Panes.glider(10), FrostPane::comesAgainIn);
    }

    private static FrostPane round39() {
        return Panes.breathing(Panes.of("###", "#.#", "##.", "#.#"), 399, 181);
    }

    private static FrostPane round41() {
        return Panes.framed(Panes.breathing(
                Panes.of("...###", "....#.", "....#.", "...###", "...#.#"), 459, 49), 2);
    }

    private void promise27StandsStillIn() {
        check.sentence("27: 0 if it is now");
        check.same("standsStillIn(), nothing frozen", new FrostPane().standsStillIn(), 0);
        check.same("standsStillIn(), all frozen", Panes.breathing(Panes.filled(12, 12), 0, 511).standsStillIn(), 0);
        check.same("standsStillIn(), a block", Panes.block().standsStillIn(), 0);

        check.sentence("27: behind how many generations: 1");
        check.same("standsStillIn(), one alone", Panes.alone(3, 3, 2, 2).standsStillIn(), 1);
        check.same("standsStillIn(), all freeze", Panes.breathing(Panes.clear(12, 12), 511, 511).standsStillIn(), 1);

        check.sentence("27: at most 40");
        for (int generations = 0; generations <= 40; generations++) {
            check.same("standsStillIn(), " + generations, Panes.snail(generations).standsStillIn(), generations);
        }

        check.sentence("27: -1 if not by then: 41 is too late");
        for (int generations = 41; generations <= 66; generations++) {
            check.same("standsStillIn(), " + generations, Panes.snail(generations).standsStillIn(), -1);
        }

        check.sentence("27: -1 if not by then: never, as it comes again and again");
        check.same("standsStillIn(), 2", Panes.blinker().standsStillIn(), -1);
        check.same("standsStillIn(), all to and fro", Panes.breathing(new FrostPane(), 511, 0).standsStillIn(), -1);
        check.same("standsStillIn(), 39", round39().standsStillIn(), -1);
        check.same("standsStillIn(), 40", Panes.glider(10).standsStillIn(), -1);
        check.same("standsStillIn(), 41", round41().standsStillIn(), -1);

        check.sentence("27: all is as it stays: not only as many frozen");
        check.same("frozenIn(1), as many", Panes.blinker().frozenIn(1), Panes.blinker().frozen());
        check.same("standsStillIn()", Panes.blinker().standsStillIn(), -1);

        check.sentence("27: (nothing is changed)");
        check.changesNothing("standsStillIn()", Panes::busy, FrostPane::standsStillIn);
        check.changesNothing("standsStillIn(), -1", Panes::blinker, FrostPane::standsStillIn);
    }

    private void promise27Melted() {
        check.sentence("27: without melted cells: not before they are melted no more");
        for (int generations = 1; generations <= 9; generations++) {
            FrostPane clear = Panes.pressed(new FrostPane(), 7, 7, generations);
            check.same("standsStillIn(), melted for " + generations, clear.standsStillIn(), generations);
        }

        check.sentence("27: without melted cells: not one alone, at each place");
        for (int cell = 0; cell < 36; cell++) {
            check.same("standsStillIn(), 12 by 3", Panes.meltedAlone(12, 3, cell % 12, cell / 12).standsStillIn(), 8);
            check.same("standsStillIn(), 3 by 12", Panes.meltedAlone(3, 12, cell % 3, cell / 3).standsStillIn(), 8);
        }

        check.sentence("27: all is as it stays: one alone that thaws, at each place");
        for (int cell = 0; cell < 36; cell++) {
            check.same("standsStillIn(), 12 by 3", Panes.alone(12, 3, cell % 12, cell / 12).standsStillIn(), 1);
            check.same("standsStillIn(), 3 by 12", Panes.alone(3, 12, cell % 3, cell / 3).standsStillIn(), 1);
        }

        check.sentence("27: all is as it stays from then on: not if a cell freezes when it is melted no more");
        for (int generations = 1; generations <= 9; generations++) {
            FrostPane full = Panes.pressed(Panes.breathing(Panes.filled(4, 4), 511, 511), 3, 3, generations);
            check.same("standsStillIn(), melted for " + generations, full.standsStillIn(), generations + 1);
        }

        check.sentence("27: all is as it stays from then on: not where only melted cells keep it still");
        FrostPane kept = Panes.pressed(Panes.breathing(Panes.framed(Panes.clear(3, 3), 1), 1, 0), 1, 1, 5);
        check.same("frozenIn(5)", kept.frozenIn(5), 0);
        check.same("frozenIn(6)", kept.frozenIn(6), 1);
        check.same("standsStillIn(), to and fro then", kept.standsStillIn(), -1);
    }

    private void promise28PeakIn() {
        check.sentence("28: 0 to this number: 0, as it is now");
        check.same("peakIn(60), nothing frozen", new FrostPane().peakIn(60), 0);
        check.same("peakIn(1), fewer then", Panes.filled(12, 12).peakIn(1), 0);
        check.same("peakIn(60), all frozen", Panes.breathing(Panes.filled(3, 3), 0, 511).peakIn(60), 0);

        check.sentence("28: 0 to this number: this number itself, 1 to 60");
        for (int generations = 1; generations <= 60; generations++) {
            check.same("peakIn(" + generations + ")", Panes.snail(60).peakIn(generations), generations);
        }

        check.sentence("28: 0 to this number: not beyond it");
        check.same("frozenIn(2), more", Panes.block().frozenIn(2), 4);
        FrostPane late = Panes.pressed(Panes.breathing(Panes.filled(3, 3), 511, 511), 1, 1, 9);
        check.same("peakIn(9), all frozen behind 10", late.peakIn(9), 0);
        check.same("peakIn(10)", late.peakIn(10), 10);
        check.same("peakIn(11)", late.peakIn(11), 10);

        check.sentence("28: of several the fewest: now");
        check.same("peakIn(60), a blinker", Panes.blinker().peakIn(60), 0);
        check.same("peakIn(60), all frozen each second time",
                Panes.breathing(Panes.filled(4, 4), 511, 0).peakIn(60), 0);

        check.sentence("28: of several the fewest: later");
        check.same("peakIn(60)", Panes.breathing(Panes.clear(4, 4), 511, 0).peakIn(60), 1);
        check.same("peakIn(1)", Panes.breathing(Panes.clear(4, 4), 511, 0).peakIn(1), 1);
        check.same("peakIn(60), the most from 30 on", Panes.snail(30).peakIn(60), 30);
        check.same("peakIn(59), the most from 59 on", Panes.snail(59).peakIn(59), 59);

        check.sentence("28: (nothing is changed)");
        check.changesNothing("peakIn(1)", Panes::busy, x -> x.peakIn(1));
        check.changesNothing("peakIn(60)", Panes::busy, x -> x.peakIn(60));

        check.sentence("28: if generations is not 1 to 60");
        edges.takesNumbers("peakIn(n)", 1, 60, Panes::busy, (x, n) -> x.peakIn(n));
        edges.refusesNumbers("peakIn(n)", 1, 60, Edges.ARGUMENT, Panes::busy, (x, n) -> x.peakIn(n));
    }

    private void promise29BestBreath() {
        check.sentence("29: the rule with which the most cells are frozen: each of six");
        for (int best = 1; best <= 5; best++) {
            FrostPane x = Panes.clear(3, 3);
            for (int rule = 1; rule <= 5; rule++) {
                x.addRule(rule == best ? 511 : 0, 511);
            }
            check.same("bestBreath(1)", x.bestBreath(1), best);
            check.same("bestBreath(20)", x.bestBreath(20), best);
        }

        check.sentence("29: the rule with which the most cells are frozen: the only one");
        check.same("bestBreath(1)", new FrostPane().bestBreath(1), 0);
        check.same("bestBreath(20)", Panes.filled(12, 12).bestBreath(20), 0);

        check.sentence("29: of several the smallest number: nothing frozen with any of them");
        FrostPane none = new FrostPane();
        none.addRule(0, 0);
        none.breathe(1);
        check.same("bestBreath(20)", none.bestBreath(20), 0);

        check.sentence("29: of several the smallest number: the same most with some of them");
        FrostPane same = Panes.filled(3, 3);
        same.addRule(0, 0);
        same.addRule(0, 511);
        same.addRule(511, 511);
        same.addRule(511, 511);
        check.same("bestBreath(1)", same.bestBreath(1), 2);
        check.same("bestBreath(20)", same.bestBreath(20), 2);

        check.sentence("29: as the breath from now on: whatever the breath is now");
        for (int rule = 0; rule <= 4; rule++) {
            same.breathe(rule);
            check.same("bestBreath(1), the breath " + rule, same.bestBreath(1), 2);
        }

        check.sentence("29: behind them: behind just as many, 1 to 20");
        FrostPane toAndFro = new FrostPane();
        toAndFro.addRule(511, 0);
        for (int generations = 1; generations <= 20; generations++) {
            check.same("bestBreath(" + generations + ")", toAndFro.bestBreath(generations), generations % 2);
        }

        check.sentence("29: (nothing is changed)");
        check.changesNothing("bestBreath(1)", Panes::busy, x -> x.bestBreath(1));
        check.changesNothing("bestBreath(20)", Panes::sixRules, x -> x.bestBreath(20));

        check.sentence("29: if generations is not 1 to 20");
        edges.takesNumbers("bestBreath(n)", 1, 20, Panes::sixRules, (x, n) -> x.bestBreath(n));
        edges.refusesNumbers("bestBreath(n)", 1, 20, Edges.ARGUMENT, Panes::sixRules, (x, n) -> x.bestBreath(n));
    }

    private void promise30MeanInRows() {
        check.sentence("30: the mean of how many cells of rows are frozen: none, and all");
        for (int side = 3; side <= 12; side++) {
            check.same("meanInRows(), nothing frozen", Panes.clear(15 - side, side).meanInRows(), 0.0);
            check.same("meanInRows(), all frozen", Panes.filled(15 - side, side).meanInRows(), 15.0 - side);
        }

        check.sentence("30: the mean: no whole number");
        check.same("meanInRows(), 1 in 3", Panes.alone(12, 3, 0, 0).meanInRows(), 1.0 / 3);
        check.same("meanInRows(), 1 in 12", Panes.alone(3, 12, 2, 11).meanInRows(), 1.0 / 12);
        check.same("meanInRows(), 35 in 12", turned(Panes.filled(3, 12)).meanInRows(), 35.0 / 12);
        check.same("meanInRows(), 143 in 12", turned(Panes.filled(12, 12)).meanInRows(), 143.0 / 12);
        check.same("meanInRows(), 83 in 7", turned(Panes.filled(12, 7)).meanInRows(), 83.0 / 7);
    }

    private static FrostPane turned(FrostPane x) {
        x.turn(0, 0);
        return x;
    }

    private void promise31Digest() {
        check.sentence("31: the smallest and the largest pane, nothing frozen and all");
        check.same("digest() of 3 by 3", Panes.clear(3, 3).digest(), digestOf(Panes.clear(3, 3)));
        check.same("digest() of 3 by 3, all frozen", Panes.filled(3, 3).digest(), digestOf(Panes.filled(3, 3)));
        check.same("digest() of 12 by 5, all frozen", Panes.filled(12, 5).digest(), digestOf(Panes.filled(12, 5)));
        check.same("digest() of 12 by 9", Panes.clear(12, 9).digest(), digestOf(Panes.clear(12, 9)));

        check.sentence("31: with all kinds of numbers, under each frame");
        for (int frame = 0; frame <= 2; frame++) {
            check.same("digest()", Panes.framed(Panes.busy(), frame).digest(), digestOf(Panes.framed(Panes.busy(), frame)));
            check.same("digest(), six rules", Panes.framed(Panes.sixRules(), frame).digest(),
                    digestOf(Panes.framed(Panes.sixRules(), frame)));
        }

        check.sentence("31: numbers below 0: comesAgainIn() and standsStillIn(), not by then");
        check.same("comesAgainIn()", Panes.glider(5).comesAgainIn(), 20);
        check.same("digest(), one of them", Panes.glider(5).digest(), digestOf(Panes.glider(5)));
        check.same("digest(), both of them", round41().digest(), digestOf(round41()));

        check.sentence("31: whether something is so counts 1 or 0");
        check.same("digest(), mirrored", Panes.of("#.#", "...", "###").digest(), digestOf(Panes.of("#.#", "...", "###")));
        check.same("digest(), not mirrored", Panes.of("#..", "...", "###").digest(), digestOf(Panes.of("#..", "...", "###")));

        check.sentence("31: bestBreath(5): not of 4 or 6 generations");
        FrostPane odd = odd();
        check.same("bestBreath(4)", odd.bestBreath(4), 0);
        check.same("bestBreath(5)", odd.bestBreath(5), 1);
        check.same("bestBreath(6)", odd.bestBreath(6), 0);
        check.same("digest()", odd.digest(), digestOf(odd()));

        check.sentence("31: wraps around as a 64-bit integer");
        check.same("digest() of a new object", new FrostPane().digest(), digestOf(Panes.clear(8, 8)));
        check.same("numbers beyond 64 bits", wholeDigest(Panes.clear(8, 8)).bitLength() > 64, true);

        check.sentence("An object is used for at most 512 calls: 31, the same digest each time");
        FrostPane asked = Panes.clear(12, 12);
        long due = digestOf(Panes.clear(12, 9));
        asked.lay(12, 9);
        for (int call = 3; call <= 512; call++) {
            check.same("digest(), the call " + call, asked.digest(), due);
        }

        check.sentence("31: nothing is changed by it");
        check.changesNothing("digest()", Panes::busy, FrostPane::digest);
        check.changesNothing("digest(), six rules", Panes::sixRules, FrostPane::digest);
    }

    private static FrostPane odd() {
        FrostPane x = Panes.clear(4, 4);
        x.addRule(511, 0);
        return x;
    }

    private static long digestOf(FrostPane x) {
        return wholeDigest(x).longValue();
    }

    /** The checksum by the answers of the other calls, in numbers that have no end, before it wraps around. */
    private static BigInteger wholeDigest(FrostPane x) {
        BigInteger d = BigInteger.valueOf(2203);
        int columns = x.columns();
        int rows = x.rows();
        int[] first = {columns, rows, x.generation(), x.rules(), x.breath(), x.frozen(), x.melted(),
            x.flowers(), x.largestFlower(), x.isMirrored() ? 1 : 0, x.comesAgainIn(), x.standsStillIn(), x.bestBreath(5)};
        for (int number : first) {
            d = mixed(d, number);
        }
        for (int row = 0; row < rows; row++) {
            d = mixed(d, x.frozenInRow(row));
            for (int column = 0; column < columns; column++) {
                d = mixed(d, x.isFrozen(column, row) ? 1 : 0);
                d = mixed(d, x.meltedFor(column, row));
                d = mixed(d, x.around(column, row));
                d = mixed(d, x.willFreeze(column, row) ? 1 : 0);
            }
        }
        return d;
    }

    private static BigInteger mixed(BigInteger d, int number) {
        return d.multiply(BigInteger.valueOf(31)).add(BigInteger.valueOf(number));
    }
}
