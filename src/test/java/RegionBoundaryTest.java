/** The boundary cases of the calls on cells and regions, one test for each sentence that names one. */
public final class RegionBoundaryTest {
    private static final int LEAST = Integer.MIN_VALUE;
    private static final int MOST = Integer.MAX_VALUE;
    /** Just too small, just too large, far off, and some that fall on a cell if cut to eight bits. */
    private static final int[] BAD = {-1, 256, -16, -256, 257, 512, 65536, LEAST, MOST};
    private static final int[] VALUES = {0, 1, -1, -2, -3, LEAST, MOST, LEAST + 1, 65536};
    private static final Due due = new Due("region boundaries");

    public static void main(String[] args) {
        cellIsRowAndSixteenColumns();
        regionCountsItsEdgesIn();
        regionInEitherOrder();
        regionsOnTheArraysEdge();
        newArrayIsAllZero();
        fillRefused();
        fillTakesAnyInt();
        fillAnswersCellsThatStayTheSame();
        addRefused();
        addWraps();
        scaleRefused();
        scaleWraps();
        copyRefused();
        copyFromTheSmallestRowAndColumn();
        copyLeavesOutWhatFallsOutside();
        copyTakesContentsAsTheyWere();
        copyTakesContentsAnewEachTime();
        getRefused();
        getAtTheEnds();
        sumRefused();
        sumWraps();
        greatestRefused();
        greatestAtTheEnds();
        countRefused();
        countAtTheEnds();
        readingChangesNothing();
        changesLeaveVersions();
        lastCalls();
        due.end();
    }

    private static int cell(int row, int column) {
        return Scene.cell(row, column);
    }

    private static boolean between(int x, int one, int other) {
        return (one <= x && x <= other) || (other <= x && x <= one);
    }

    private static boolean inside(int c, int from, int to) {
        return between(c % 16, from % 16, to % 16) && between(c / 16, from / 16, to / 16);
    }

    /** A call on a region, whatever its third argument is. */
    private interface OnRegion {
        int call(ChunkArray x, int from, int to);
    }

    /** Each way a region can be named wrongly, by its first cell, by its second, or by both. */
    private static void refused(String name, OnRegion made) {
        for (int bad : BAD) {
            int[][] regions = {{bad, 0}, {bad, 255}, {0, bad}, {255, bad}, {bad, bad}, {-1, bad}, {bad, 256}};
            for (int[] r : regions) {
                String call = name + "(" + r[0] + ", " + r[1] + ", ..)";
                Scene.SOME.staysAfter(due, call, x -> made.call(x, r[0], r[1]), -1);
            }
        }
    }

    /** "A CELL is named by row + 16 * column": the cell after a column's last is the next one's first. */
    private static void cellIsRowAndSixteenColumns() {
        ChunkArray x = new ChunkArray();
        due.is("fill(15, 16, 1)", x.fill(15, 16, 1), 32);
        due.is("two columns", x.count(0, 31, 1), 32);
        due.is("fill(15, 31, 2)", x.fill(15, 31, 2), 2);
        due.is("the last row of two columns", x.get(15) + x.get(31), 4);
        due.is("the rows above it", x.count(0, 30, 1), 30);
        due.is("fill(0, 1, 3)", x.fill(0, 1, 3), 2);
        due.is("fill(0, 16, 4)", x.fill(0, 16, 4), 2);
        due.is("get(1)", x.get(1), 3);
        due.is("get(16)", x.get(16), 4);
    }

    /** "These counted in": every pair of cells of a coarse net, the answer and each cell of the array. */
    private static void regionCountsItsEdgesIn() {
        int[] lines = {0, 1, 7, 14, 15};
        for (int a : lines) {
            for (int b : lines) {
                for (int c : lines) {
                    for (int d : lines) {
                        oneRegion(cell(a, b), cell(c, d));
                    }
                }
            }
        }
    }

    private static void oneRegion(int from, int to) {
        ChunkArray x = new ChunkArray();
        int cells = (Math.abs(from % 16 - to % 16) + 1) * (Math.abs(from / 16 - to / 16) + 1);
        String on = "(" + from + ", " + to;
        due.is("fill" + on + ", 6)", x.fill(from, to, 6), cells);
        due.is("add" + on + ", 1)", x.add(from, to, 1), cells);
        due.is("scale" + on + ", 3)", x.scale(from, to, 3), cells);
        due.is("sum" + on + ")", x.sum(from, to), 21 * cells);
        due.is("count" + on + ", 21)", x.count(from, to, 21), cells);
        due.is("greatest" + on + ")", x.greatest(from, to), 21);
        for (int c = 0; c < 256; c++) {
            due.is("filled" + on + "), get(" + c + ")", x.get(c), inside(c, from, to) ? 21 : 0);
        }
    }

    /** "In either order": all four namings of one region, for each call on a region. */
    private static void regionInEitherOrder() {
        int[][] namings = {
            {cell(3, 4), cell(6, 9)}, {cell(6, 9), cell(3, 4)},
            {cell(3, 9), cell(6, 4)}, {cell(6, 4), cell(3, 9)},
        };
        for (int[] r : namings) {
            String on = "(" + r[0] + ", " + r[1] + ")";
            ChunkArray x = Scene.numbered();
            due.is("sum" + on, x.sum(r[0], r[1]), 24 * 109 + 12);
            due.is("greatest" + on, x.greatest(r[0], r[1]), cell(6, 9) + 1);
            due.is("count" + on + " of a corner", x.count(r[0], r[1], cell(6, 4) + 1), 1);
            due.is("count" + on + " beside", x.count(r[0], r[1], cell(7, 4) + 1), 0);
            due.is("add" + on, x.add(r[0], r[1], 300), 24);
            due.is("scale" + on, x.scale(r[0], r[1], 2), 24);
            for (int c = 0; c < 256; c++) {
                int want = inside(c, r[0], r[1]) ? 2 * (c + 301) : c + 1;
                due.is("changed" + on + ", get(" + c + ")", x.get(c), want);
            }
        }
    }

    /** The smallest and the largest regions: a corner cell, an outer row or column, the whole array. */
    private static void regionsOnTheArraysEdge() {
        int[][] regions = {
            {0, 0, 1}, {15, 15, 1}, {240, 240, 1}, {255, 255, 1},
            {0, 15, 16}, {240, 255, 16}, {0, 240, 16}, {15, 255, 16}, {0, 255, 256}, {240, 15, 256},
        };
        for (int[] r : regions) {
            oneRegion(r[0], r[1]);
            due.is("cells of (" + r[0] + ", " + r[1] + ")", new ChunkArray().fill(r[0], r[1], 1), r[2]);
        }
    }

    /** Promise 1: "The present array is all 0". */
    private static void newArrayIsAllZero() {
        ChunkArray x = new ChunkArray();
        for (int c = 0; c < 256; c++) {
            due.is("new, get(" + c + ")", x.get(c), 0);
        }
        due.is("new, sum", x.sum(0, 255), 0);
        due.is("new, greatest", x.greatest(0, 255), 0);
        due.is("new, count of 0", x.count(0, 255, 0), 256);
        due.is("new, count of -1", x.count(0, 255, -1), 0);
    }

    /** Promise 2: "from or to not in 0 to 255: BAD_CELL, nothing changes". */
    private static void fillRefused() {
        refused("fill", (x, from, to) -> x.fill(from, to, 5));
    }

    /** Promise 2: a value may be any int, the numbers of the refusals among them. */
    private static void fillTakesAnyInt() {
        for (int value : VALUES) {
            ChunkArray x = Scene.numbered();
            due.is("fill(17, 34, " + value + ")", x.fill(17, 34, value), 4);
            for (int c = 0; c < 256; c++) {
                due.is("filled, get(" + c + ")", x.get(c), inside(c, 17, 34) ? value : c + 1);
            }
        }
    }

    /** Promises 2 to 4: "how many cells that were", not how many changed. */
    private static void fillAnswersCellsThatStayTheSame() {
        ChunkArray x = new ChunkArray();
        due.is("fill with what is there", x.fill(0, 255, 0), 256);
        due.is("add 0", x.add(0, 33, 0), 6);
        due.is("scale by 1", x.scale(0, 33, 1), 6);
        due.is("scale zeros", x.scale(255, 0, 9), 256);
        due.is("copy zeros", x.copy(0, 17, 100), 4);
        due.is("still zeros", x.count(0, 255, 0), 256);
    }

    /** Promise 3: "BAD_CELL, nothing changes". */
    private static void addRefused() {
        refused("add", (x, from, to) -> x.add(from, to, 5));
    }

    /** "Ints (that wrap)", for promise 3, over both ends. */
    private static void addWraps() {
        for (int start : VALUES) {
            for (int more : VALUES) {
                ChunkArray x = new ChunkArray();
                x.fill(0, 255, start);
                due.is("add(1, 18, " + more + ")", x.add(1, 18, more), 4);
                long want = (int) ((long) start + more);
                due.is(start + " plus " + more, x.get(18), want);
                due.is("beside it", x.get(19), start);
            }
        }
        ChunkArray x = new ChunkArray();
        x.fill(0, 0, MOST);
        x.add(0, 0, 1);
        due.is("the most plus 1", x.get(0), LEAST);
        x.add(0, 0, -1);
        due.is("the least minus 1", x.get(0), MOST);
        x.add(0, 0, MOST);
        due.is("the most plus the most", x.get(0), -2);
        x.fill(0, 0, LEAST);
        x.add(0, 0, LEAST);
        due.is("the least plus the least", x.get(0), 0);
    }

    /** Promise 4: "BAD_CELL, nothing changes". */
    private static void scaleRefused() {
        refused("scale", (x, from, to) -> x.scale(from, to, 5));
    }

    /** "Ints (that wrap)", for promise 4. */
    private static void scaleWraps() {
        for (int start : VALUES) {
            for (int factor : VALUES) {
                ChunkArray x = new ChunkArray();
                x.fill(0, 255, start);
                due.is("scale(1, 18, " + factor + ")", x.scale(1, 18, factor), 4);
                long want = (int) ((long) start * factor);
                due.is(start + " times " + factor, x.get(18), want);
                due.is("beside it", x.get(19), start);
            }
        }
        ChunkArray x = new ChunkArray();
        x.fill(0, 0, MOST);
        x.scale(0, 0, 2);
        due.is("the most times 2", x.get(0), -2);
        x.fill(0, 0, LEAST);
        x.scale(0, 0, -1);
        due.is("the least times -1", x.get(0), LEAST);
        x.scale(0, 0, 2);
        due.is("the least times 2", x.get(0), 0);
        x.fill(0, 0, 65536);
        x.scale(0, 0, 65536);
        due.is("65536 times 65536", x.get(0), 0);
        x.fill(0, 0, MOST);
        x.scale(0, 0, MOST);
        due.is("the most times the most", x.get(0), 1);
    }

    /** Promise 5: "from, to or at not in 0 to 255: BAD_CELL, nothing changes". */
    private static void copyRefused() {
        refused("copy", (x, from, to) -> x.copy(from, to, 100));
        for (int bad : BAD) {
            Scene.SOME.staysAfter(due, "copy(0, 17, " + bad + ")", x -> x.copy(0, 17, bad), -1);
            Scene.SOME.staysAfter(due, "copy(255, 255, " + bad + ")", x -> x.copy(255, 255, bad), -1);
            Scene.SOME.staysAfter(due, "copy(0, 255, " + bad + ")", x -> x.copy(0, 255, bad), -1);
            Scene.SOME.staysAfter(due, "copy, all " + bad, x -> x.copy(bad, bad, bad), -1);
        }
    }

    /** Promise 5: "its cell with the smallest row and column becomes cell 'at'", in all four namings. */
    private static void copyFromTheSmallestRowAndColumn() {
        int[][] namings = {
            {cell(0, 13), cell(2, 15)}, {cell(2, 15), cell(0, 13)},
            {cell(0, 15), cell(2, 13)}, {cell(2, 13), cell(0, 15)},
        };
        for (int[] r : namings) {
            for (int at : new int[] {0, cell(13, 13), cell(0, 13), cell(13, 0), cell(7, 6)}) {
                oneCopy(r[0], r[1], at, 9);
            }
        }
    }

    /** Promise 5: "what would fall outside the array is left out", "how many cells were written". */
    private static void copyLeavesOutWhatFallsOutside() {
        oneCopy(0, 255, 0, 256);
        oneCopy(0, 255, 1, 240);
        oneCopy(0, 255, 16, 240);
        oneCopy(0, 255, 15, 16);
        oneCopy(0, 255, 240, 16);
        oneCopy(0, 255, 255, 1);
        oneCopy(0, 255, 17, 225);
        oneCopy(cell(0, 0), cell(3, 3), cell(12, 12), 16);
        oneCopy(cell(0, 0), cell(3, 3), cell(13, 12), 12);
        oneCopy(cell(0, 0), cell(3, 3), cell(12, 13), 12);
        oneCopy(cell(0, 0), cell(3, 3), cell(14, 15), 2);
        oneCopy(cell(15, 15), cell(14, 10), cell(15, 15), 1);
        oneCopy(cell(0, 0), cell(15, 0), cell(1, 5), 15);
        oneCopy(cell(0, 0), cell(0, 15), cell(5, 1), 15);
        oneCopy(255, 255, 255, 1);
        oneCopy(0, 0, 255, 1);
        oneCopy(255, 255, 0, 1);
    }

    /** Promise 5: "Contents are taken as they were before the call", whichever way the two overlap. */
    private static void copyTakesContentsAsTheyWere() {
        for (int down = -3; down <= 3; down++) {
            for (int right = -3; right <= 3; right++) {
                oneCopy(cell(5, 5), cell(8, 8), cell(5 + down, 5 + right), 16);
            }
        }
        oneCopy(1, 255, 0, 240);
        oneCopy(16, 255, 0, 240);
        oneCopy(17, 255, 0, 225);
        oneCopy(17, 255, 1, 225);
        oneCopy(1, 239, 17, 225);
    }

    /** Copies within the numbered array, and looks at the answer and at each cell. */
    private static void oneCopy(int from, int to, int at, int written) {
        ChunkArray x = Scene.numbered();
        String call = "copy(" + from + ", " + to + ", " + at + ")";
        due.is(call, x.copy(from, to, at), written);
        int down = at % 16 - Math.min(from % 16, to % 16);
        int right = at / 16 - Math.min(from / 16, to / 16);
        for (int c = 0; c < 256; c++) {
            int row = c % 16 - down;
            int column = c / 16 - right;
            boolean copied = between(row, from % 16, to % 16) && between(column, from / 16, to / 16);
            due.is(call + ", get(" + c + ")", x.get(c), 1 + (copied ? cell(row, column) : c));
        }
    }

    /** Promise 5: the contents before this call, not those before an earlier or a refused one. */
    private static void copyTakesContentsAnewEachTime() {
        ChunkArray x = Scene.numbered();
        x.copy(0, 0, 1);
        due.is("copy on", x.copy(0, 1, 1), 2);
        due.is("copied on", x.get(2), 1);
        x.fill(0, 0, 500);
        x.copy(0, 0, 300);
        x.copy(0, 0, 9);
        due.is("copied after a fill", x.get(9), 500);
        x.keep(0);
        x.fill(0, 255, 3);
        x.restore(0);
        x.copy(9, 9, 255);
        due.is("copied after a restore", x.get(255), 500);
    }

    /** Promise 9: "BAD_CELL". */
    private static void getRefused() {
        for (int bad : BAD) {
            Scene.SOME.staysAfter(due, "get(" + bad + ")", x -> x.get(bad), -1);
        }
    }

    /** Promise 9, at the first and last cell and for every kind of value. */
    private static void getAtTheEnds() {
        for (int value : VALUES) {
            ChunkArray x = Scene.numbered();
            x.fill(0, 0, value);
            x.fill(255, 255, value);
            due.is("get(0)", x.get(0), value);
            due.is("get(1)", x.get(1), 2);
            due.is("get(254)", x.get(254), 255);
            due.is("get(255)", x.get(255), value);
        }
    }

    /** Promise 11: "BAD_CELL". */
    private static void sumRefused() {
        refused("sum", (x, from, to) -> x.sum(from, to));
    }

    /** Promise 11: "(wrapping)", over both ends, and once around. */
    private static void sumWraps() {
        ChunkArray x = new ChunkArray();
        x.fill(0, 0, MOST);
        due.is("the most and 0", x.sum(0, 1), MOST);
        x.fill(1, 1, 1);
        due.is("the most and 1", x.sum(0, 1), LEAST);
        x.fill(0, 0, LEAST);
        x.fill(1, 1, -1);
        due.is("the least and -1", x.sum(1, 0), MOST);
        x.fill(1, 1, LEAST);
        due.is("the least twice", x.sum(0, 1), 0);
        x.fill(0, 255, 1 << 24);
        due.is("256 times 2 to the 24th", x.sum(0, 255), 0);
        due.is("128 times 2 to the 24th", x.sum(0, 127), LEAST);
        x.fill(0, 255, -1);
        due.is("a sum that is no refusal", x.sum(0, 2), -3);
    }

    /** Promise 12: "BAD_CELL". */
    private static void greatestRefused() {
        refused("greatest", (x, from, to) -> x.greatest(from, to));
    }

    /** Promise 12: the greatest in each cell of a region, just outside it, all below 0, all the least. */
    private static void greatestAtTheEnds() {
        int from = cell(6, 3);
        int to = cell(4, 5);
        for (int c = 0; c < 256; c++) {
            ChunkArray x = new ChunkArray();
            x.fill(0, 255, -50);
            x.fill(c, c, -7);
            due.is("greatest with -7 in " + c, x.greatest(from, to), inside(c, from, to) ? -7 : -50);
            x.fill(0, 255, LEAST);
            x.fill(c, c, MOST);
            due.is("greatest with the most in " + c, x.greatest(from, to), inside(c, from, to) ? MOST : LEAST);
            due.is("greatest of all with the most in " + c, x.greatest(0, 255), MOST);
        }
    }

    /** Promise 14: "BAD_CELL", whatever the value. */
    private static void countRefused() {
        refused("count", (x, from, to) -> x.count(from, to, 1));
        Scene.SOME.staysAfter(due, "count(256, 0, -1)", x -> x.count(256, 0, -1), -1);
    }

    /** Promise 14: none, all, in each cell of a region, just outside it, and every kind of value. */
    private static void countAtTheEnds() {
        int from = cell(4, 5);
        int to = cell(6, 3);
        for (int c = 0; c < 256; c++) {
            ChunkArray x = new ChunkArray();
            x.fill(c, c, 1);
            due.is("count with 1 in " + c, x.count(from, to, 1), inside(c, from, to) ? 1 : 0);
            due.is("count of 0 with 1 in " + c, x.count(from, to, 0), inside(c, from, to) ? 8 : 9);
        }
        for (int value : VALUES) {
            ChunkArray x = new ChunkArray();
            x.fill(0, 255, value);
            due.is("count of all, " + value, x.count(0, 255, value), 256);
            due.is("count of one, " + value, x.count(255, 255, value), 1);
            due.is("count of one more than " + value, x.count(0, 255, value + 1), 0);
            due.is("count of one less than " + value, x.count(0, 255, value - 1), 0);
        }
    }

    /** "The calls below change nothing that any call answers", on regions of all sizes. */
    private static void readingChangesNothing() {
        for (Scene scene : Scene.ALL) {
            scene.staysAfter(due, "get(0)", x -> x.get(0), 1);
            scene.staysAfter(due, "get(255)", x -> x.get(255), 256);
            scene.staysAfter(due, "sum(0, 255)", x -> x.sum(0, 255), 32896);
            scene.staysAfter(due, "sum(255, 255)", x -> x.sum(255, 255), 256);
            scene.staysAfter(due, "greatest(240, 15)", x -> x.greatest(240, 15), 256);
            scene.staysAfter(due, "greatest(0, 0)", x -> x.greatest(0, 0), 1);
            scene.staysAfter(due, "count(0, 255, 9)", x -> x.count(0, 255, 9), 1);
            scene.staysAfter(due, "count(0, 0, 9)", x -> x.count(0, 0, 9), 0);
        }
    }

    /** Promises 2 to 5 speak of the present array: what was kept stays. */
    private static void changesLeaveVersions() {
        for (int v = 0; v < 4; v++) {
            ChunkArray x = Scene.FULL.make();
            x.fill(0, 100, -4);
            x.add(50, 255, 11);
            x.scale(3, 200, -2);
            x.copy(0, 119, 136);
            for (int c = 0; c < 256; c++) {
                due.is("changed, getOf(" + v + ", " + c + ")", x.getOf(v, c), Scene.FULL.of(v, c));
            }
        }
    }

    /** "At most 512 calls": the last of them is as good as the first, and later ones end all the same. */
    private static void lastCalls() {
        ChunkArray x = Scene.FULL.make();
        for (int call = 32 + 3 * 4; call < 508; call++) {
            x.add(0, 255, call % 2 == 0 ? 1 : -1);
        }
        due.is("call 509: restore(3)", x.restore(3), 256);
        due.is("call 510: copy(0, 255, 17)", x.copy(0, 255, 17), 225);
        due.is("call 511: fill(256, 0, 1)", x.fill(256, 0, 1), -1);
        due.is("call 512: get(17)", x.get(17), 4001);
        for (int call = 512; call < 2000; call++) {
            x.add(0, 255, 1);
            x.copy(0, 255, call % 256);
            x.keep(call % 4);
            x.drop(call % 5);
        }
    }
}
