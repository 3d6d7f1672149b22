/**
 * The document once more, written as near to its words as can be and without any care for speed, so that
 * the answers of FrostPane can be compared with those of a program that was not written in the same way.
 */
final class Model implements Cloneable {
    int columns = 8;
    int rows = 8;
    int generation;
    int rules = 1;
    int breath;
    int frame;
    int[] freezes = {8, 0, 0, 0, 0, 0};
    int[] stays = {12, 0, 0, 0, 0, 0};
    boolean[][] frozen = new boolean[8][8];
    int[][] melted = new int[8][8];

    Model copy() {
        try {
            Model other = (Model) clone();
            other.freezes = freezes.clone();
            other.stays = stays.clone();
            other.frozen = new boolean[columns][];
            other.melted = new int[columns][];
            for (int c = 0; c < columns; c++) {
                other.frozen[c] = frozen[c].clone();
                other.melted[c] = melted[c].clone();
            }
            return other;
        } catch (CloneNotSupportedException e) {
            throw new AssertionError(e);
        }
    }

    boolean there(int c, int r) {
        return c >= 0 && c < columns && r >= 0 && r < rows;
    }

    int lay(int newColumns, int newRows) {
        within(newColumns, 3, 12);
        within(newRows, 3, 12);
        columns = newColumns;
        rows = newRows;
        frozen = new boolean[columns][rows];
        melted = new int[columns][rows];
        return columns * rows;
    }

    boolean turn(int c, int r) {
        cell(c, r);
        if (melted[c][r] > 0) {
            throw new IllegalStateException();
        }
        frozen[c][r] = !frozen[c][r];
        return frozen[c][r];
    }

    int press(int c, int r, int generations) {
        cell(c, r);
        within(generations, 1, 9);
        int[][] thumb = {{c, r}, {c - 1, r}, {c + 1, r}, {c, r - 1}, {c, r + 1}};
        int count = 0;
        for (int[] at : thumb) {
            if (there(at[0], at[1])) {
                count += frozen[at[0]][at[1]] ? 1 : 0;
                frozen[at[0]][at[1]] = false;
                melted[at[0]][at[1]] = generations;
            }
        }
        return count;
    }

    int setFrame(int newFrame) {
        within(newFrame, 0, 2);
        int before = frame;
        frame = newFrame;
        return before;
    }

    int addRule(int newFreezes, int newStays) {
        within(newFreezes, 0, 511);
        within(newStays, 0, 511);
        if (rules == 6) {
            throw new IllegalStateException();
        }
        freezes[rules] = newFreezes;
        stays[rules] = newStays;
        return rules++;
    }

    int breathe(int rule) {
        if (rule < 0 || rule >= rules) {
            throw new IndexOutOfBoundsException();
        }
        int before = breath;
        breath = rule;
        return before;
    }

    int grow(int generations) {
        within(generations, 1, 60);
        for (int i = 0; i < generations; i++) {
            one();
        }
        return frozen();
    }

    void one() {
        boolean[][] then = new boolean[columns][rows];
        for (int c = 0; c < columns; c++) {
            for (int r = 0; r < rows; r++) {
                then[c][r] = willFreeze(c, r);
            }
        }
        for (int c = 0; c < columns; c++) {
            for (int r = 0; r < rows; r++) {
                melted[c][r] = melted[c][r] > 0 ? melted[c][r] - 1 : 0;
            }
        }
        frozen = then;
        generation++;
    }

    int frozen() {
        int count = 0;
        for (int r = 0; r < rows; r++) {
            count += frozenInRow(r);
        }
        return count;
    }

    int melted() {
        int count = 0;
        for (int c = 0; c < columns; c++) {
            for (int r = 0; r < rows; r++) {
                count += melted[c][r] > 0 ? 1 : 0;
            }
        }
        return count;
    }

    boolean isFrozen(int c, int r) {
        cell(c, r);
        return frozen[c][r];
    }

    int meltedFor(int c, int r) {
        cell(c, r);
        return melted[c][r];
    }

    int around(int c, int r) {
        cell(c, r);
        int count = 0;
        for (int right = -1; right <= 1; right++) {
            for (int down = -1; down <= 1; down++) {
                if (right != 0 || down != 0) {
                    count += counts(c + right, r + down) ? 1 : 0;
                }
            }
        }
        return count;
    }

    boolean counts(int c, int r) {
        if (there(c, r)) {
            return frozen[c][r];
        }
        return frame == 2 ? frozen[(c + columns) % columns][(r + rows) % rows] : frame == 1;
    }

    boolean willFreeze(int c, int r) {
        cell(c, r);
        if (melted[c][r] > 0) {
            return false;
        }
        int number = frozen[c][r] ? stays[breath] : freezes[breath];
        return number / (int) Math.pow(2, around(c, r)) % 2 == 1;
    }

    int frozenInRow(int r) {
        if (r < 0 || r >= rows) {
            throw new IndexOutOfBoundsException();
        }
        int count = 0;
        for (int c = 0; c < columns; c++) {
            count += frozen[c][r] ? 1 : 0;
        }
        return count;
    }

    int flowers() {
        boolean[][] seen = new boolean[columns][rows];
        int count = 0;
        for (int c = 0; c < columns; c++) {
            for (int r = 0; r < rows; r++) {
                count += size(c, r, seen) > 0 ? 1 : 0;
            }
        }
        return count;
    }

    int largestFlower() {
        int largest = 0;
        for (int c = 0; c < columns; c++) {
            for (int r = 0; r < rows; r++) {
                largest = Math.max(largest, flowerAt(c, r));
            }
        }
        return largest;
    }

    int flowerAt(int c, int r) {
        cell(c, r);
        return size(c, r, new boolean[columns][rows]);
    }

    private int size(int c, int r, boolean[][] seen) {
        if (!there(c, r) || seen[c][r] || !frozen[c][r]) {
            return 0;
        }
        seen[c][r] = true;
        return 1 + size(c - 1, r, seen) + size(c + 1, r, seen) + size(c, r - 1, seen) + size(c, r + 1, seen);
    }

    boolean isMirrored() {
        boolean mirrored = true;
        for (int c = 0; c < columns; c++) {
            for (int r = 0; r < rows; r++) {
                mirrored &= frozen[c][r] == frozen[columns - 1 - c][r];
            }
        }
        return mirrored;
    }

    int frozenIn(int generations) {
        within(generations, 1, 60);
        return copy().grow(generations);
    }

    int comesAgainIn() {
        for (int k = 1; k <= 40; k++) {
            Model then = copy();
            then.grow(k);
            if (then.sameCells(this)) {
                return k;
            }
        }
        return -1;
    }

    int standsStillIn() {
        for (int k = 0; k <= 40; k++) {
            Model then = copy();
            if (k > 0) {
                then.grow(k);
            }
            Model behind = then.copy();
            behind.grow(1);
            if (then.melted() == 0 && behind.sameCells(then)) {
                return k;
            }
        }
        return -1;
    }

    private boolean sameCells(Model other) {
        return java.util.Arrays.deepEquals(frozen, other.frozen) && java.util.Arrays.deepEquals(melted, other.melted);
    }

    int peakIn(int generations) {
        within(generations, 1, 60);
        int peak = generations;
        int most = frozenIn(generations);
        for (int k = generations - 1; k >= 0; k--) {
            int count = k == 0 ? frozen() : frozenIn(k);
            if (count >= most) {
                most = count;
                peak = k;
            }
        }
        return peak;
    }

    int bestBreath(int generations) {
        within(generations, 1, 20);
        int best = -1;
        int most = -1;
        for (int rule = 0; rule < rules; rule++) {
            Model then = copy();
            then.breathe(rule);
            int count = then.grow(generations);
            if (count > most) {
                most = count;
                best = rule;
            }
        }
        return best;
    }

    double meanInRows() {
        double sum = 0;
        for (int r = 0; r < rows; r++) {
            sum += frozenInRow(r);
        }
        return sum / rows;
    }

    long digest() {
        long[] first = {columns, rows, generation, rules, breath, frozen(), melted(), flowers(), largestFlower(),
            isMirrored() ? 1 : 0, comesAgainIn(), standsStillIn(), bestBreath(5)};
        long d = 2203;
        for (long x : first) {
            d = d * 31 + x;
        }
        for (int r = 0; r < rows; r++) {
            d = d * 31 + frozenInRow(r);
            for (int c = 0; c < columns; c++) {
                d = d * 31 + (isFrozen(c, r) ? 1 : 0);
                d = d * 31 + meltedFor(c, r);
                d = d * 31 + around(c, r);
                d = d * 31 + (willFreeze(c, r) ? 1 : 0);
            }
        }
        return d;
    }

    private void cell(int c, int r) {
        if (!there(c, r)) {
            throw new IndexOutOfBoundsException();
        }
    }

    private static void within(int number, int least, int most) {
        if (number < least || number > most) {
            throw new IllegalArgumentException();
        }
    }
}
