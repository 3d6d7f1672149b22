/** Panes to test with, and what can be seen of a pane. */
final class Panes {
    private static final int RULE_COUNTS = 9;

    private Panes() {
    }

    static FrostPane clear(int columns, int rows) {
        FrostPane x = new FrostPane();
        x.lay(columns, rows);
        return x;
    }

    static FrostPane of(String... rows) {
        FrostPane x = clear(rows[0].length(), rows.length);
        for (int row = 0; row < rows.length; row++) {
            for (int column = 0; column < rows[row].length(); column++) {
                if (rows[row].charAt(column) == '#') {
                    x.turn(column, row);
                }
            }
        }
        return x;
    }

    static FrostPane filled(int columns, int rows) {
        String[] all = new String[rows];
        java.util.Arrays.fill(all, "#".repeat(columns));
        return of(all);
    }

    static FrostPane alone(int columns, int rows, int column, int row) {
        FrostPane x = clear(columns, rows);
        x.turn(column, row);
        return x;
    }

    static FrostPane blinker() {
        return of(".....", "..#..", "..#..", "..#..", ".....");
    }

    static FrostPane block() {
        return of("....", ".##.", ".##.", "....");
    }

    /** It is as before, one cell further on, each 4 generations, so that it comes again behind 4 times the side. */
    static FrostPane glider(int side) {
        FrostPane x = clear(side, side);
        x.setFrame(2);
        x.turn(1, 0);
        x.turn(2, 1);
        x.turn(0, 2);
        x.turn(1, 2);
        x.turn(2, 2);
        return x;
    }

    /** Frozen cells come to it, and none thaw, for so many generations, 66 at most; then it stands still. */
    static FrostPane snail(int generations) {
        FrostPane x = alone(12, 12, 9, 11);
        x.setFrame(1);
        x.breathe(x.addRule(400, 511));
        for (int gone = generations; gone < 66; gone++) {
            x.grow(1);
        }
        return x;
    }

    /** Neither as at first in anything: 7 columns, 6 rows, 3 rules, a frozen frame, frozen and melted cells. */
    static FrostPane busy() {
        FrostPane x = of(".......", ".##....", ".#.#...", "..#....", ".......", "....##.");
        x.setFrame(1);
        x.addRule(8, 28);
        x.addRule(68, 511);
        x.breathe(1);
        x.grow(3);
        x.press(5, 5, 7);
        x.press(0, 0, 2);
        return x;
    }

    /** As many rules as there can be. */
    static FrostPane sixRules() {
        FrostPane x = busy();
        x.addRule(0, 511);
        x.addRule(511, 0);
        x.addRule(85, 170);
        return x;
    }

    /** The same pane, its breath a new rule. */
    static FrostPane breathing(FrostPane x, int freezes, int stays) {
        x.breathe(x.addRule(freezes, stays));
        return x;
    }

    static FrostPane framed(FrostPane x, int frame) {
        x.setFrame(frame);
        return x;
    }

    static FrostPane pressed(FrostPane x, int column, int row, int generations) {
        x.press(column, row, generations);
        return x;
    }

    /** Just this cell melted, for 8 generations: the thumbs askew to it end what one on it has melted beside it. */
    static FrostPane meltedAlone(int columns, int rows, int column, int row) {
        FrostPane x = pressed(clear(columns, rows), column, row, 9);
        for (int side = 0; side < 4; side++) {
            int besideColumn = column + (side % 2 == 0 ? 1 : -1);
            int besideRow = row + (side / 2 == 0 ? 1 : -1);
            if (besideColumn >= 0 && besideColumn < columns && besideRow >= 0 && besideRow < rows) {
                x.press(besideColumn, besideRow, 1);
            }
        }
        return grown(x, 1);
    }

    /** One flower of 78 cells, which are one way from its first row to its last. */
    static FrostPane snake() {
        return of("############", "...........#", "############", "#...........", "############", "...........#",
                "############", "#...........", "############", "...........#", "############", "#...........");
    }

    /** The same way, from its first column to its last. */
    static FrostPane standingSnake() {
        return of("#.###.###.##", "#.#.#.#.#.#.", "#.#.#.#.#.#.", "#.#.#.#.#.#.", "#.#.#.#.#.#.", "#.#.#.#.#.#.",
                "#.#.#.#.#.#.", "#.#.#.#.#.#.", "#.#.#.#.#.#.", "#.#.#.#.#.#.", "#.#.#.#.#.#.", "###.###.###.");
    }

    static FrostPane grown(FrostPane x, int generations) {
        x.grow(generations);
        return x;
    }

    static String picture(FrostPane x) {
        StringBuilder text = new StringBuilder();
        for (int row = 0; row < x.rows(); row++) {
            text.append(row > 0 ? "/" : "");
            for (int column = 0; column < x.columns(); column++) {
                text.append(x.isFrozen(column, row) ? '#' : '.');
            }
        }
        return text.toString();
    }

    /** For how many generations each cell is melted. */
    static String melts(FrostPane x) {
        StringBuilder text = new StringBuilder();
        for (int row = 0; row < x.rows(); row++) {
            text.append(row > 0 ? "/" : "");
            for (int column = 0; column < x.columns(); column++) {
                text.append(x.meltedFor(column, row));
            }
        }
        return text.toString();
    }

    /** All that there is in an object, the frame and the rules' numbers too. Behind this the pane is another one. */
    static String all(FrostPane x) {
        return x.digest() + ", frame " + x.setFrame(0) + ", rules" + ruleNumbers(x);
    }

    /** Both numbers of each rule, found by which cells freeze and stay so. Behind this the pane is another one. */
    static String ruleNumbers(FrostPane x) {
        x.setFrame(0);
        x.lay(12, 12);
        for (int count = 0; count < RULE_COUNTS; count++) {
            freezeAround(x, columnFor(count), rowFor(count), count);
        }
        int[] freezes = numbersNow(x);
        for (int count = 0; count < RULE_COUNTS; count++) {
            x.turn(columnFor(count), rowFor(count));
        }
        int[] stays = numbersNow(x);
        StringBuilder text = new StringBuilder();
        for (int rule = 0; rule < freezes.length; rule++) {
            text.append(' ').append(freezes[rule]).append('/').append(stays[rule]);
        }
        return text.toString();
    }

    // Cells so far apart that nothing is around two of them.
    private static int columnFor(int count) {
        return 1 + count % 3 * 4;
    }

    private static int rowFor(int count) {
        return 1 + count / 3 * 4;
    }

    static void freezeAround(FrostPane x, int column, int row, int count) {
        int left = count;
        for (int r = row - 1; r <= row + 1; r++) {
            for (int c = column - 1; c <= column + 1; c++) {
                if (left > 0 && (c != column || r != row)) {
                    x.turn(c, r);
                    left--;
                }
            }
        }
    }

    private static int[] numbersNow(FrostPane x) {
        int[] numbers = new int[x.rules()];
        for (int rule = 0; rule < numbers.length; rule++) {
            x.breathe(rule);
            for (int count = 0; count < RULE_COUNTS; count++) {
                numbers[rule] += x.willFreeze(columnFor(count), rowFor(count)) ? 1 << count : 0;
            }
        }
        return numbers;
    }
}
