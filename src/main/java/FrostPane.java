import java.util.Arrays;

/** Frost on a window: cells that freeze and thaw by how many around them are frozen. */
public final class FrostPane {
    private static final int FEWEST_LINES = 3;
    private static final int MOST_LINES = 12;
    private static final int LINES_AT_FIRST = 8;
    private static final int LAST_FRAME = 2;
    private static final int LONGEST_MELT = 9;
    private static final int MOST_RULES = 6;
    private static final int ALL_COUNTS = 511;
    private static final int FREEZES_AT_FIRST = 8;
    private static final int STAYS_AT_FIRST = 12;
    private static final int LONGEST_GROWTH = 60;
    private static final int LONGEST_BREATH = 20;
    private static final int FORESIGHT = 40;
    private static final int NOT_BY_THEN = -1;
    private static final long DIGEST_START = 2203L;
    private static final int DIGEST_BREATH = 5;

    private final Pane now = new Pane();
    // A second pane made once and used again by each look ahead, as what a call makes is never given back.
    private final Pane ahead = new Pane();
    private final FlowerPicker picker = new FlowerPicker();
    private final RuleBook book = new RuleBook();
    private int breath;
    private int generation;

    public FrostPane() {
        now.layClear(LINES_AT_FIRST, LINES_AT_FIRST);
        book.append(FREEZES_AT_FIRST, STAYS_AT_FIRST);
    }

    // ---- the pane

    public int lay(int columns, int rows) throws IllegalArgumentException {
        requireWithin(columns, FEWEST_LINES, MOST_LINES);
        requireWithin(rows, FEWEST_LINES, MOST_LINES);
        now.layClear(columns, rows);
        return columns * rows;
    }

    public boolean turn(int column, int row) throws IndexOutOfBoundsException, IllegalStateException {
        requireCell(column, row);
        if (now.meltOf(column, row) > 0) {
            throw new IllegalStateException("the cell is melted");
        }
        now.flip(column, row);
        return now.hasFrost(column, row);
    }

    public int press(int column, int row, int generations)
            throws IndexOutOfBoundsException, IllegalArgumentException {
        requireCell(column, row);
        requireWithin(generations, 1, LONGEST_MELT);
        return now.melt(column, row, generations)
                + now.melt(column - 1, row, generations)
                + now.melt(column + 1, row, generations)
                + now.melt(column, row - 1, generations)
                + now.melt(column, row + 1, generations);
    }

    public int setFrame(int frame) throws IllegalArgumentException {
        requireWithin(frame, 0, LAST_FRAME);
        int before = now.frame;
        now.frame = frame;
        return before;
    }

    public int addRule(int freezes, int stays) throws IllegalArgumentException, IllegalStateException {
        requireWithin(freezes, 0, ALL_COUNTS);
        requireWithin(stays, 0, ALL_COUNTS);
        if (book.isFull()) {
            throw new IllegalStateException("there are as many rules as can be");
        }
        return book.append(freezes, stays);
    }

    public int breathe(int rule) throws IndexOutOfBoundsException {
        if (!book.has(rule)) {
            throw new IndexOutOfBoundsException("there is no such rule");
        }
        int before = breath;
        breath = rule;
        return before;
    }

    public int grow(int generations) throws IllegalArgumentException {
        requireWithin(generations, 1, LONGEST_GROWTH);
        for (int passed = 0; passed < generations; passed++) {
            now.step(book.freezesBy(breath), book.staysBy(breath));
        }
        generation += generations;
        return now.countFrost();
    }

    // ---- what there is

    public int columns() {
        return now.columns;
    }

    public int rows() {
        return now.rows;
    }

    public int generation() {
        return generation;
    }

    public int rules() {
        return book.count;
    }

    public int breath() {
        return breath;
    }

    public int frozen() {
        return now.countFrost();
    }

    public int melted() {
        return now.countMelted();
    }

    // ---- cells

    public boolean isFrozen(int column, int row) throws IndexOutOfBoundsException {
        requireCell(column, row);
        return now.hasFrost(column, row);
    }

    public int meltedFor(int column, int row) throws IndexOutOfBoundsException {
        requireCell(column, row);
        return now.meltOf(column, row);
    }

    public int around(int column, int row) throws IndexOutOfBoundsException {
        requireCell(column, row);
        return now.countAround(column, row);
    }

    public boolean willFreeze(int column, int row) throws IndexOutOfBoundsException {
        requireCell(column, row);
        return now.isFrozenNext(column, row, book.freezesBy(breath), book.staysBy(breath));
    }

    public int frozenInRow(int row) throws IndexOutOfBoundsException {
        if (!now.hasRow(row)) {
            throw new IndexOutOfBoundsException("there is no such row");
        }
        return Integer.bitCount(now.bitsOf(row));
    }

    // ---- flowers

    public int flowers() {
        picker.spreadOut(now);
        int count = 0;
        for (int row = 0; row < now.rows; row++) {
            for (int column = 0; column < now.columns; column++) {
                if (picker.pick(column, row) > 0) {
                    count++;
                }
            }
        }
        return count;
    }

    public int largestFlower() {
        picker.spreadOut(now);
        int largest = 0;
        for (int row = 0; row < now.rows; row++) {
            for (int column = 0; column < now.columns; column++) {
                largest = Math.max(largest, picker.pick(column, row));
            }
        }
        return largest;
    }

    public int flowerAt(int column, int row) throws IndexOutOfBoundsException {
        requireCell(column, row);
        picker.spreadOut(now);
        return picker.pick(column, row);
    }

    public boolean isMirrored() {
        for (int row = 0; row < now.rows; row++) {
            for (int column = 0; column < now.columns; column++) {
                if (now.hasFrost(column, row) != now.hasFrost(now.columns - 1 - column, row)) {
                    return false;
                }
            }
        }
        return true;
    }

    // ---- what would be

    public int frozenIn(int generations) throws IllegalArgumentException {
        requireWithin(generations, 1, LONGEST_GROWTH);
        return frostBehind(generations, breath);
    }

    public int comesAgainIn() {
        ahead.becomeLike(now);
        for (int passed = 1; passed <= FORESIGHT; passed++) {
            ahead.step(book.freezesBy(breath), book.staysBy(breath));
            if (ahead.isLike(now)) {
                return passed;
            }
        }
        return NOT_BY_THEN;
    }

    public int standsStillIn() {
        ahead.becomeLike(now);
        for (int passed = 0; passed <= FORESIGHT; passed++) {
            boolean nothingMelted = ahead.countMelted() == 0;
            boolean changes = ahead.step(book.freezesBy(breath), book.staysBy(breath));
            if (nothingMelted && !changes) {
                return passed;
            }
        }
        return NOT_BY_THEN;
    }

    public int peakIn(int generations) throws IllegalArgumentException {
        requireWithin(generations, 1, LONGEST_GROWTH);
        ahead.becomeLike(now);
        int peak = 0;
        int most = ahead.countFrost();
        for (int passed = 1; passed <= generations; passed++) {
            ahead.step(book.freezesBy(breath), book.staysBy(breath));
            int count = ahead.countFrost();
            if (count > most) {
                most = count;
                peak = passed;
            }
        }
        return peak;
    }

    public int bestBreath(int generations) throws IllegalArgumentException {
        requireWithin(generations, 1, LONGEST_BREATH);
        int best = 0;
        int most = frostBehind(generations, best);
        for (int rule = 1; rule < book.count; rule++) {
            int count = frostBehind(generations, rule);
            if (count > most) {
                most = count;
                best = rule;
            }
        }
        return best;
    }

    public double meanInRows() {
        int rows = now.rows;
        return rows > 0 ? (double) now.countFrost() / rows : 0.0;
    }

    public long digest() {
        long d = DIGEST_START;
        d = mixed(d, columns());
        d = mixed(d, rows());
        d = mixed(d, generation());
        d = mixed(d, rules());
        d = mixed(d, breath());
        d = mixed(d, frozen());
        d = mixed(d, melted());
        d = mixed(d, flowers());
        d = mixed(d, largestFlower());
        d = mixed(d, asNumber(isMirrored()));
        d = mixed(d, comesAgainIn());
        d = mixed(d, standsStillIn());
        d = mixed(d, bestBreath(DIGEST_BREATH));
        for (int row = 0; row < now.rows; row++) {
            d = digestOfRow(d, row);
        }
        return d;
    }

    private long digestOfRow(long start, int row) {
        long d = mixed(start, frozenInRow(row));
        for (int column = 0; column < now.columns; column++) {
            d = mixed(d, asNumber(isFrozen(column, row)));
            d = mixed(d, meltedFor(column, row));
            d = mixed(d, around(column, row));
            d = mixed(d, asNumber(willFreeze(column, row)));
        }
        return d;
    }

    private static long mixed(long d, long x) {
        return d * 31L + x;
    }

    private static long asNumber(boolean isSo) {
        return isSo ? 1L : 0L;
    }

    private int frostBehind(int generations, int rule) {
        ahead.becomeLike(now);
        for (int passed = 0; passed < generations; passed++) {
            ahead.step(book.freezesBy(rule), book.staysBy(rule));
        }
        return ahead.countFrost();
    }

    private void requireCell(int column, int row) throws IndexOutOfBoundsException {
        if (!now.hasCell(column, row)) {
            throw new IndexOutOfBoundsException("there is no such cell");
        }
    }

    private static void requireWithin(int number, int least, int most) throws IllegalArgumentException {
        if (number < least || number > most) {
            throw new IllegalArgumentException("the number is not in its range");
        }
    }

    /** The rules by their numbers; a rule that is not there freezes nothing. */
    private static final class RuleBook {
        private final int[] freezes = new int[MOST_RULES];
        private final int[] stays = new int[MOST_RULES];
        private int count;

        boolean isFull() {
            return count >= MOST_RULES;
        }

        boolean has(int rule) {
            return rule >= 0 && rule < count;
        }

        int append(int freezesWith, int staysWith) {
            int number = count;
            if (number >= 0 && number < freezes.length && number < stays.length) {
                freezes[number] = freezesWith;
                stays[number] = staysWith;
                count++;
            }
            return number;
        }

        int freezesBy(int rule) {
            return has(rule) && rule < freezes.length ? freezes[rule] : 0;
        }

        int staysBy(int rule) {
            return has(rule) && rule < stays.length ? stays[rule] : 0;
        }
    }

    /** The cells. A row is one number, its bit k the column k, so that three shifts find what is around a cell. */
    private static final class Pane {
        private static final int FROZEN_FRAME = 1;
        private static final int ROUND_FRAME = 2;
        private static final int THREE_CELLS = 7;
        private static final int BOTH_SIDES = 5;

        private final int[] frost = new int[MOST_LINES];
        private final int[] frostNext = new int[MOST_LINES];
        private final int[] melts = new int[MOST_LINES * MOST_LINES];
        private int columns;
        private int rows;
        private int frame;

        void layClear(int newColumns, int newRows) {
            columns = newColumns;
            rows = newRows;
            Arrays.fill(frost, 0);
            Arrays.fill(melts, 0);
        }

        void becomeLike(Pane other) {
            if (other == null) {
                return;
            }
            columns = other.columns;
            rows = other.rows;
            frame = other.frame;
            System.arraycopy(other.frost, 0, frost, 0, Math.min(other.frost.length, frost.length));
            System.arraycopy(other.melts, 0, melts, 0, Math.min(other.melts.length, melts.length));
        }

        boolean isLike(Pane other) {
            if (other == null) {
                return false;
            }
            for (int row = 0; row < rows; row++) {
                if (bitsOf(row) != other.bitsOf(row)) {
                    return false;
                }
                for (int column = 0; column < columns; column++) {
                    if (meltOf(column, row) != other.meltOf(column, row)) {
                        return false;
                    }
                }
            }
            return true;
        }

        boolean hasRow(int row) {
            return row >= 0 && row < rows;
        }

        boolean hasCell(int column, int row) {
            return column >= 0 && column < columns && hasRow(row);
        }

        int bitsOf(int row) {
            return row >= 0 && row < frost.length ? frost[row] : 0;
        }

        boolean hasFrost(int column, int row) {
            return ((bitsOf(row) >> column) & 1) == 1;
        }

        int meltOf(int column, int row) {
            int cell = row * MOST_LINES + column;
            return cell >= 0 && cell < melts.length ? melts[cell] : 0;
        }

        void flip(int column, int row) {
            if (hasCell(column, row) && row < frost.length) {
                frost[row] ^= 1 << column;
            }
        }

        /** Answers how many cells were frozen: one or none, as a place beyond the pane has no cell to melt. */
        int melt(int column, int row, int generations) {
            if (!hasCell(column, row)) {
                return 0;
            }
            int before = hasFrost(column, row) ? 1 : 0;
            if (before == 1) {
                flip(column, row);
            }
            int cell = row * MOST_LINES + column;
            if (cell >= 0 && cell < melts.length) {
                melts[cell] = generations;
            }
            return before;
        }

        int countFrost() {
            int count = 0;
            for (int row = 0; row < rows; row++) {
                count += Integer.bitCount(bitsOf(row));
            }
            return count;
        }

        int countMelted() {
            int count = 0;
            for (int cell = 0; cell < melts.length; cell++) {
                if (melts[cell] > 0) {
                    count++;
                }
            }
            return count;
        }

        int countAround(int column, int row) {
            return countIn(framed(row - 1), framed(row), framed(row + 1), column);
        }

        boolean isFrozenNext(int column, int row, int freezes, int stays) {
            return ((grownRow(row, freezes, stays) >> column) & 1) == 1;
        }

        /** Answers whether a cell froze or thawed. */
        boolean step(int freezes, int stays) {
            for (int row = 0; row < rows && row < frostNext.length; row++) {
                frostNext[row] = grownRow(row, freezes, stays);
            }
            meltLess();
            return takeNext();
        }

        private void meltLess() {
            for (int cell = 0; cell < melts.length; cell++) {
                if (melts[cell] > 0) {
                    melts[cell]--;
                }
            }
        }

        private boolean takeNext() {
            boolean changed = false;
            for (int row = 0; row < rows && row < frostNext.length && row < frost.length; row++) {
                changed = changed || frost[row] != frostNext[row];
                frost[row] = frostNext[row];
            }
            return changed;
        }

        private int grownRow(int row, int freezes, int stays) {
            int above = framed(row - 1);
            int here = framed(row);
            int below = framed(row + 1);
            int grown = 0;
            for (int column = 0; column < columns; column++) {
                int counts = hasFrost(column, row) ? stays : freezes;
                int around = countIn(above, here, below, column);
                if (meltOf(column, row) == 0 && ((counts >> around) & 1) == 1) {
                    grown |= 1 << column;
                }
            }
            return grown;
        }

        // With the frame in bit 0, what is around a column stands in the bits column to column + 2.
        private static int countIn(int above, int here, int below, int column) {
            return Integer.bitCount((above >> column) & THREE_CELLS)
                    + Integer.bitCount((here >> column) & BOTH_SIDES)
                    + Integer.bitCount((below >> column) & THREE_CELLS);
        }

        private int framed(int row) {
            if (hasRow(row)) {
                return withSides(bitsOf(row));
            }
            if (frame == ROUND_FRAME) {
                return withSides(bitsOf(row < 0 ? rows - 1 : 0));
            }
            return frame == FROZEN_FRAME ? -1 : 0;
        }

        private int withSides(int bits) {
            int left = frame == FROZEN_FRAME ? 1 : 0;
            int right = left;
            if (frame == ROUND_FRAME) {
                left = (bits >> (columns - 1)) & 1;
                right = bits & 1;
            }
            return left | (bits << 1) | (right << (columns + 1));
        }
    }

    /** Takes flowers off a copy of the frost, each once, so that none is counted twice. */
    private static final class FlowerPicker {
        private final int[] left = new int[MOST_LINES];
        private final int[] flower = new int[MOST_LINES];

        void spreadOut(Pane pane) {
            if (pane == null) {
                return;
            }
            for (int row = 0; row < left.length; row++) {
                left[row] = pane.bitsOf(row);
            }
        }

        /** Answers how many cells the flower had; 0 if there is none left at this place. */
        int pick(int column, int row) {
            if (row < 0 || row >= left.length || row >= flower.length || ((left[row] >> column) & 1) == 0) {
                return 0;
            }
            Arrays.fill(flower, 0);
            flower[row] = 1 << column;
            // Each pass but the last adds a cell, so there are never more passes than cells.
            for (int pass = 0; pass < MOST_LINES * MOST_LINES; pass++) {
                if (!widen()) {
                    break;
                }
            }
            return takeAway();
        }

        private boolean widen() {
            boolean wider = false;
            for (int row = 0; row < flower.length && row < left.length; row++) {
                int here = flower[row];
                int reached = here | (here << 1) | (here >> 1) | flowerIn(row - 1) | flowerIn(row + 1);
                flower[row] = reached & left[row];
                wider = wider || flower[row] != here;
            }
            return wider;
        }

        private int flowerIn(int row) {
            return row >= 0 && row < flower.length ? flower[row] : 0;
        }

        private int takeAway() {
            int count = 0;
            for (int row = 0; row < flower.length && row < left.length; row++) {
                count += Integer.bitCount(flower[row]);
                left[row] &= ~flower[row];
            }
            return count;
        }
    }
}
