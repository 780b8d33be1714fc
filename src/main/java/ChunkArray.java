/** A versioned array of sixteen rows and sixteen columns of ints (that wrap). */
public final class ChunkArray {
    public static final int BAD_CELL = -1;
    public static final int BAD_VERSION = -2;
    public static final int TAKEN = -3;

    private static final int ROWS = 16;
    private static final int COLUMNS = 16;
    private static final int CELLS = 256;
    private static final int VERSIONS = 4;
    private static final int VERSION_CELLS = 1024;

    private final int[] present = new int[CELLS];

    // All versions share one array, as arrays of arrays are ruled out: version v starts at v * CELLS.
    private final int[] versions = new int[VERSION_CELLS];
    private final boolean[] kept = new boolean[VERSIONS];

    // A copy may overlap its own source, so it reads from here and not from the present array.
    private final int[] before = new int[CELLS];

    public ChunkArray() {
        // Java's zeros and falses are already the empty state.
    }

    public int fill(int from, int to, int value) {
        return change(from, to, 0, value);
    }

    public int add(int from, int to, int more) {
        return change(from, to, 1, more);
    }

    public int scale(int from, int to, int factor) {
        return change(from, to, factor, 0);
    }

    public int copy(int from, int to, int at) {
        if (!isRegion(from, to) || !isCell(at)) {
            return BAD_CELL;
        }
        int firstRow = lowRow(from, to);
        int lastRow = highRow(from, to);
        int firstColumn = lowColumn(from, to);
        int lastColumn = highColumn(from, to);
        int atRow = at % ROWS;
        int atColumn = at / ROWS;
        int rows = smaller(lastRow - firstRow + 1, ROWS - atRow);
        int columns = smaller(lastColumn - firstColumn + 1, COLUMNS - atColumn);
        rememberPresent();
        for (int column = 0; column < columns; column++) {
            for (int row = 0; row < rows; row++) {
                int source = firstRow + row + ROWS * (firstColumn + column);
                int target = atRow + row + ROWS * (atColumn + column);
                present[target] = before[source];
            }
        }
        return rows * columns;
    }

    public int keep(int version) {
        if (!isVersionNumber(version)) {
            return BAD_VERSION;
        }
        if (kept[version]) {
            return TAKEN;
        }
        for (int cell = 0; cell < CELLS; cell++) {
            versions[version * CELLS + cell] = present[cell];
        }
        kept[version] = true;
        return 0;
    }

    public int restore(int version) {
        if (!isKept(version)) {
            return BAD_VERSION;
        }
        int changed = differences(version);
        for (int cell = 0; cell < CELLS; cell++) {
            present[cell] = versions[version * CELLS + cell];
        }
        return changed;
    }

    public int drop(int version) {
        if (!isKept(version)) {
            return BAD_VERSION;
        }
        kept[version] = false;
        return 0;
    }

    public int get(int cell) {
        if (!isCell(cell)) {
            return BAD_CELL;
        }
        return present[cell];
    }

    public int getOf(int version, int cell) {
        if (!isCell(cell)) {
            return BAD_CELL;
        }
        if (!isKept(version)) {
            return BAD_VERSION;
        }
        return versions[version * CELLS + cell];
    }

    public int sum(int from, int to) {
        if (!isRegion(from, to)) {
            return BAD_CELL;
        }
        int firstRow = lowRow(from, to);
        int lastRow = highRow(from, to);
        int firstColumn = lowColumn(from, to);
        int lastColumn = highColumn(from, to);
        int total = 0;
        for (int column = firstColumn; column <= lastColumn; column++) {
            for (int row = firstRow; row <= lastRow; row++) {
                total += present[row + ROWS * column];
            }
        }
        return total;
    }

    public int greatest(int from, int to) {
        if (!isRegion(from, to)) {
            return BAD_CELL;
        }
        int firstRow = lowRow(from, to);
        int lastRow = highRow(from, to);
        int firstColumn = lowColumn(from, to);
        int lastColumn = highColumn(from, to);
        // A region holds its own corner, so no value below every int is needed to begin with.
        int best = present[from];
        for (int column = firstColumn; column <= lastColumn; column++) {
            for (int row = firstRow; row <= lastRow; row++) {
                int value = present[row + ROWS * column];
                if (value > best) {
                    best = value;
                }
            }
        }
        return best;
    }

    public int differ(int version) {
        if (!isKept(version)) {
            return BAD_VERSION;
        }
        return differences(version);
    }

    public int count(int from, int to, int value) {
        if (!isRegion(from, to)) {
            return BAD_CELL;
        }
        int firstRow = lowRow(from, to);
        int lastRow = highRow(from, to);
        int firstColumn = lowColumn(from, to);
        int lastColumn = highColumn(from, to);
        int equal = 0;
        for (int column = firstColumn; column <= lastColumn; column++) {
            for (int row = firstRow; row <= lastRow; row++) {
                if (present[row + ROWS * column] == value) {
                    equal++;
                }
            }
        }
        return equal;
    }

    // Filling, adding and scaling are all 'times factor, plus more', so one walk serves the three.
    private int change(int from, int to, int factor, int more) {
        if (!isRegion(from, to)) {
            return BAD_CELL;
        }
        int firstRow = lowRow(from, to);
        int lastRow = highRow(from, to);
        int firstColumn = lowColumn(from, to);
        int lastColumn = highColumn(from, to);
        for (int column = firstColumn; column <= lastColumn; column++) {
            for (int row = firstRow; row <= lastRow; row++) {
                int cell = row + ROWS * column;
                present[cell] = present[cell] * factor + more;
            }
        }
        return (lastRow - firstRow + 1) * (lastColumn - firstColumn + 1);
    }

    private void rememberPresent() {
        for (int cell = 0; cell < CELLS; cell++) {
            before[cell] = present[cell];
        }
    }

    // The version must be a kept one.
    private int differences(int version) {
        int different = 0;
        for (int cell = 0; cell < CELLS; cell++) {
            if (present[cell] != versions[version * CELLS + cell]) {
                different++;
            }
        }
        return different;
    }

    private boolean isKept(int version) {
        return isVersionNumber(version) && kept[version];
    }

    private static boolean isVersionNumber(int version) {
        return version >= 0 && version < VERSIONS;
    }

    private static boolean isCell(int cell) {
        return cell >= 0 && cell < CELLS;
    }

    private static boolean isRegion(int from, int to) {
        return isCell(from) && isCell(to);
    }

    private static int lowRow(int from, int to) {
        return smaller(from % ROWS, to % ROWS);
    }

    private static int highRow(int from, int to) {
        return greater(from % ROWS, to % ROWS);
    }

    private static int lowColumn(int from, int to) {
        return smaller(from / ROWS, to / ROWS);
    }

    private static int highColumn(int from, int to) {
        return greater(from / ROWS, to / ROWS);
    }

    private static int smaller(int one, int other) {
        return one < other ? one : other;
    }

    private static int greater(int one, int other) {
        return one > other ? one : other;
    }
}
