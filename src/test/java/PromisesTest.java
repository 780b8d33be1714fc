/** For each promise: ordinary inputs, the edges the document names, and wrong inputs. */
public final class PromisesTest {
    private static final int LEAST = Integer.MIN_VALUE;
    private static final int MOST = Integer.MAX_VALUE;
    private static final int[] BAD_CELLS = {-1, -16, 256, 257, 1000, LEAST, MOST};
    private static final int[] BAD_VERSIONS = {-1, 4, 5, 256, LEAST, MOST};
    private static final Due due = new Due("promises");

    public static void main(String[] args) {
        newObject();
        fill();
        add();
        scale();
        copy();
        copyLeavesOut();
        copyOverlaps();
        keep();
        restore();
        drop();
        get();
        getOf();
        sum();
        greatest();
        differ();
        count();
        orderAndLimits();
        badRegionsChangeNothing();
        badVersionsChangeNothing();
        objectsAreApart();
        due.end();
    }

    private static int cell(int row, int column) {
        return Scene.cell(row, column);
    }

    private static ChunkArray numbered() {
        return Scene.numbered();
    }

    private static void isNumbered(String when, ChunkArray x) {
        for (int c = 0; c < 256; c++) {
            due.is(when + ", get(" + c + ")", x.get(c), c + 1);
        }
    }

    private static void newObject() {
        ChunkArray x = new ChunkArray();
        for (int c = 0; c < 256; c++) {
            due.is("new: get(" + c + ")", x.get(c), 0);
        }
        for (int v = 0; v < 4; v++) {
            due.is("new: getOf(" + v + ", 0)", x.getOf(v, 0), -2);
            due.is("new: differ(" + v + ")", x.differ(v), -2);
            due.is("new: restore(" + v + ")", x.restore(v), -2);
            due.is("new: drop(" + v + ")", x.drop(v), -2);
        }
        due.is("new: count(0, 255, 0)", x.count(0, 255, 0), 256);
    }

    /** The region of rows 2 to 4 and columns 5 to 9, named by each of its corners. */
    private static void fill() {
        int[][] corners = {
            {cell(2, 5), cell(4, 9)}, {cell(4, 9), cell(2, 5)},
            {cell(2, 9), cell(4, 5)}, {cell(4, 5), cell(2, 9)},
        };
        for (int[] corner : corners) {
            ChunkArray x = new ChunkArray();
            String call = "fill(" + corner[0] + ", " + corner[1] + ", 7)";
            due.is(call, x.fill(corner[0], corner[1], 7), 15);
            for (int c = 0; c < 256; c++) {
                boolean inside = c % 16 >= 2 && c % 16 <= 4 && c / 16 >= 5 && c / 16 <= 9;
                due.is(call + ", get(" + c + ")", x.get(c), inside ? 7 : 0);
            }
            due.is("fill again", x.fill(corner[0], corner[1], LEAST), 15);
            due.is("filled again", x.get(corner[1]), LEAST);
        }
        ChunkArray x = new ChunkArray();
        due.is("fill one", x.fill(255, 255, 3), 1);
        due.is("sum of one", x.sum(0, 255), 3);
        due.is("fill a row", x.fill(cell(3, 0), cell(3, 15), 1), 16);
        due.is("row's end", x.get(cell(3, 15)), 1);
        due.is("fill a column", x.fill(cell(0, 3), cell(15, 3), 2), 16);
        due.is("column's end", x.get(cell(15, 3)), 2);
        due.is("fill all", x.fill(0, 255, MOST), 256);
        due.is("fill all the other way", x.fill(15, 240, -1), 256);
        due.is("count all", x.count(0, 255, -1), 256);
    }

    private static void add() {
        ChunkArray x = numbered();
        due.is("add", x.add(cell(15, 1), cell(14, 3), 1000), 6);
        for (int c = 0; c < 256; c++) {
            boolean inside = c % 16 >= 14 && c / 16 >= 1 && c / 16 <= 3;
            due.is("added, get(" + c + ")", x.get(c), c + 1 + (inside ? 1000 : 0));
        }
        due.is("add less", x.add(0, 0, -5), 1);
        due.is("added less", x.get(0), -4);
        due.is("add 0", x.add(0, 255, 0), 256);
        due.is("added 0", x.get(255), 256);
        x.fill(0, 255, MOST);
        due.is("add that wraps", x.add(9, 9, 1), 1);
        due.is("wrapped up", x.get(9), LEAST);
        x.add(9, 9, -1);
        due.is("wrapped down", x.get(9), MOST);
    }

    private static void scale() {
        ChunkArray x = numbered();
        due.is("scale", x.scale(cell(1, 15), cell(0, 14), -3), 4);
        for (int c = 0; c < 256; c++) {
            boolean inside = c % 16 <= 1 && c / 16 >= 14;
            due.is("scaled, get(" + c + ")", x.get(c), (c + 1) * (inside ? -3 : 1));
        }
        due.is("scale by 1", x.scale(0, 255, 1), 256);
        due.is("scaled by 1", x.get(100), 101);
        due.is("scale by 0", x.scale(100, 100, 0), 1);
        due.is("scaled by 0", x.get(100), 0);
        x.fill(0, 255, 65537);
        due.is("scale that wraps", x.scale(0, 0, 65537), 1);
        due.is("scaled with a wrap", x.get(0), 131073);
        x.fill(1, 1, LEAST);
        x.scale(1, 1, -1);
        due.is("the least int times -1", x.get(1), LEAST);
    }

    /** Rows 1 to 2 and columns 3 to 5, named by any corners, to row 8 and column 9. */
    private static void copy() {
        int[][] corners = {
            {cell(1, 3), cell(2, 5)}, {cell(2, 5), cell(1, 3)},
            {cell(1, 5), cell(2, 3)}, {cell(2, 3), cell(1, 5)},
        };
        for (int[] corner : corners) {
            ChunkArray x = numbered();
            due.is("copy", x.copy(corner[0], corner[1], cell(8, 9)), 6);
            for (int c = 0; c < 256; c++) {
                boolean inside = c % 16 >= 8 && c % 16 <= 9 && c / 16 >= 9 && c / 16 <= 11;
                due.is("copied, get(" + c + ")", x.get(c), 1 + (inside ? c - cell(7, 6) : c));
            }
        }
        ChunkArray x = numbered();
        due.is("copy one", x.copy(255, 255, 0), 1);
        due.is("copied one", x.get(0), 256);
        due.is("copy all onto itself", x.copy(255, 0, 0), 256);
        due.is("still there", x.get(200), 201);
    }

    private static void copyLeavesOut() {
        ChunkArray x = numbered();
        due.is("copy over the last row", x.copy(cell(0, 0), cell(3, 1), cell(14, 4)), 4);
        for (int c = 0; c < 256; c++) {
            boolean inside = c % 16 >= 14 && c / 16 >= 4 && c / 16 <= 5;
            due.is("rows left out, get(" + c + ")", x.get(c), 1 + (inside ? c - cell(14, 4) : c));
        }
        x = numbered();
        due.is("copy over the last column", x.copy(cell(0, 0), cell(1, 3), cell(4, 14)), 4);
        for (int c = 0; c < 256; c++) {
            boolean inside = c % 16 >= 4 && c % 16 <= 5 && c / 16 >= 14;
            due.is("columns left out, get(" + c + ")", x.get(c), 1 + (inside ? c - cell(4, 14) : c));
        }
        x = numbered();
        due.is("copy all to the last cell", x.copy(0, 255, 255), 1);
        due.is("the last cell", x.get(255), 1);
        due.is("the one before", x.get(254), 255);
        due.is("copy all to the last row", x.copy(0, 255, 15), 16);
        due.is("copy all to the last column", x.copy(0, 255, 240), 16);
    }

    /** A region moved by one step each way, on top of itself. */
    private static void copyOverlaps() {
        for (int down = -1; down <= 1; down++) {
            for (int right = -1; right <= 1; right++) {
                ChunkArray x = numbered();
                int at = cell(4 + down, 4 + right);
                due.is("overlapping copy to " + at, x.copy(cell(4, 4), cell(9, 9), at), 36);
                for (int c = 0; c < 256; c++) {
                    int row = c % 16 - down;
                    int column = c / 16 - right;
                    boolean inside = row >= 4 && row <= 9 && column >= 4 && column <= 9;
                    int want = 1 + (inside ? cell(row, column) : c);
                    due.is("copied to " + at + ", get(" + c + ")", x.get(c), want);
                }
            }
        }
    }

    private static void keep() {
        ChunkArray x = numbered();
        due.is("keep(3)", x.keep(3), 0);
        x.fill(0, 255, -9);
        due.is("keep(0)", x.keep(0), 0);
        due.is("keep(3) again", x.keep(3), -3);
        due.is("keep(0) again", x.keep(0), -3);
        for (int c = 0; c < 256; c++) {
            due.is("kept, getOf(3, " + c + ")", x.getOf(3, c), c + 1);
        }
        due.is("the other version", x.getOf(0, 255), -9);
        due.is("differ(0)", x.differ(0), 0);
        due.is("present", x.count(0, 255, -9), 256);
        due.is("getOf(1, 0)", x.getOf(1, 0), -2);
        due.is("getOf(2, 0)", x.getOf(2, 0), -2);
        ChunkArray y = new ChunkArray();
        for (int v = 0; v < 4; v++) {
            y.fill(0, 255, 10 + v);
            due.is("keep(" + v + ")", y.keep(v), 0);
        }
        for (int v = 0; v < 4; v++) {
            due.is("first of " + v, y.getOf(v, 0), 10 + v);
            due.is("last of " + v, y.getOf(v, 255), 10 + v);
            due.is("taken " + v, y.keep(v), -3);
        }
    }

    private static void restore() {
        ChunkArray x = numbered();
        x.keep(2);
        x.fill(0, 33, 2);
        due.is("restore(2)", x.restore(2), 5);
        isNumbered("restored", x);
        due.is("restore(2) again", x.restore(2), 0);
        x.scale(0, 255, 0);
        due.is("restore(2), all", x.restore(2), 256);
        due.is("the version stays", x.keep(2), -3);
        x.fill(7, 7, 0);
        due.is("the version is apart", x.getOf(2, 7), 8);
        due.is("restore(2), one", x.restore(2), 1);
        due.is("restore(0)", x.restore(0), -2);
        due.is("restore(1)", x.restore(1), -2);
        due.is("restore(3)", x.restore(3), -2);
    }

    private static void drop() {
        ChunkArray x = numbered();
        x.keep(0);
        x.keep(1);
        due.is("drop(2)", x.drop(2), -2);
        due.is("drop(0)", x.drop(0), 0);
        due.is("drop(0) again", x.drop(0), -2);
        due.is("dropped: getOf", x.getOf(0, 0), -2);
        due.is("dropped: differ", x.differ(0), -2);
        due.is("dropped: restore", x.restore(0), -2);
        due.is("the other stays", x.getOf(1, 255), 256);
        isNumbered("dropped", x);
        x.fill(0, 0, 99);
        due.is("keep after drop", x.keep(0), 0);
        due.is("kept anew", x.getOf(0, 0), 99);
        due.is("drop(1)", x.drop(1), 0);
    }

    private static void get() {
        ChunkArray x = numbered();
        isNumbered("get", x);
        for (int bad : BAD_CELLS) {
            due.is("get(" + bad + ")", x.get(bad), -1);
        }
    }

    private static void getOf() {
        ChunkArray x = numbered();
        x.keep(1);
        x.fill(0, 255, 0);
        for (int c = 0; c < 256; c++) {
            due.is("getOf(1, " + c + ")", x.getOf(1, c), c + 1);
        }
        for (int bad : BAD_CELLS) {
            due.is("getOf(1, " + bad + ")", x.getOf(1, bad), -1);
        }
        for (int bad : BAD_VERSIONS) {
            due.is("getOf(" + bad + ", 0)", x.getOf(bad, 0), -2);
        }
        due.is("getOf(0, 255)", x.getOf(0, 255), -2);
    }

    private static void sum() {
        ChunkArray x = numbered();
        due.is("sum of all", x.sum(0, 255), 32896);
        due.is("sum of one", x.sum(77, 77), 78);
        due.is("sum of a row", x.sum(cell(2, 0), cell(2, 15)), 16 * 3 + 1920);
        due.is("sum of a column", x.sum(cell(15, 1), cell(0, 1)), 16 * 16 + 136);
        int four = 18 + 19 + 34 + 35;
        due.is("sum of four", x.sum(cell(1, 1), cell(2, 2)), four);
        due.is("sum of four, turned", x.sum(cell(2, 1), cell(1, 2)), four);
        due.is("sum of four, back", x.sum(cell(2, 2), cell(1, 1)), four);
        x.fill(0, 255, MOST);
        due.is("sum that wraps", x.sum(0, 1), -2);
        due.is("sum of all that wraps", x.sum(0, 255), -256);
    }

    private static void greatest() {
        ChunkArray x = numbered();
        due.is("greatest of all", x.greatest(0, 255), 256);
        due.is("greatest of one", x.greatest(77, 77), 78);
        due.is("greatest, far corner", x.greatest(cell(1, 1), cell(3, 4)), cell(3, 4) + 1);
        due.is("greatest, turned", x.greatest(cell(3, 1), cell(1, 4)), cell(3, 4) + 1);
        x.fill(cell(2, 2), cell(2, 2), 5000);
        due.is("greatest inside", x.greatest(cell(1, 4), cell(3, 1)), 5000);
        due.is("greatest beside", x.greatest(cell(3, 1), cell(4, 15)), cell(4, 15) + 1);
        x.scale(0, 255, -1);
        due.is("greatest below 0", x.greatest(0, 255), -1);
        due.is("greatest below 0, part", x.greatest(cell(3, 3), cell(5, 5)), -cell(3, 3) - 1);
        x.fill(0, 255, LEAST);
        due.is("greatest of the least", x.greatest(0, 255), LEAST);
        x.fill(255, 255, MOST);
        due.is("greatest of the most", x.greatest(255, 0), MOST);
    }

    private static void differ() {
        ChunkArray x = numbered();
        x.keep(0);
        due.is("differ(0), none", x.differ(0), 0);
        x.add(0, 0, 1);
        due.is("differ(0), first", x.differ(0), 1);
        x.add(255, 255, LEAST);
        due.is("differ(0), last too", x.differ(0), 2);
        x.add(0, 0, -1);
        due.is("differ(0), first as before", x.differ(0), 1);
        x.keep(3);
        due.is("differ(3)", x.differ(3), 0);
        x.fill(0, 255, -1);
        due.is("differ(0), all", x.differ(0), 256);
        due.is("differ(3), all", x.differ(3), 256);
        due.is("differ(1)", x.differ(1), -2);
        due.is("nothing restored", x.count(0, 255, -1), 256);
    }

    private static void count() {
        ChunkArray x = new ChunkArray();
        x.fill(cell(2, 2), cell(5, 6), 4);
        due.is("count of all", x.count(0, 255, 4), 20);
        due.is("count of the rest", x.count(0, 255, 0), 236);
        due.is("count of no value", x.count(0, 255, 5), 0);
        due.is("count of a part", x.count(cell(1, 1), cell(3, 3), 4), 4);
        due.is("count of a part, turned", x.count(cell(3, 1), cell(1, 3), 4), 4);
        due.is("count of the part's rest", x.count(cell(3, 3), cell(1, 1), 0), 5);
        due.is("count of one", x.count(cell(5, 6), cell(5, 6), 4), 1);
        due.is("count of one, beside", x.count(cell(6, 6), cell(6, 6), 4), 0);
        x.fill(0, 0, LEAST);
        due.is("count of the least", x.count(0, 255, LEAST), 1);
    }

    private static void orderAndLimits() {
        ChunkArray x = new ChunkArray();
        for (int v = 0; v < 4; v++) {
            x.keep(v);
        }
        for (int bad : BAD_VERSIONS) {
            due.is("all taken: keep(" + bad + ")", x.keep(bad), -2);
            for (int badCell : BAD_CELLS) {
                due.is("getOf(" + bad + ", " + badCell + ")", x.getOf(bad, badCell), -1);
            }
        }
        x.drop(2);
        due.is("getOf(2, 256), none of that number", x.getOf(2, 256), -1);
        due.is("getOf(2, 255), none of that number", x.getOf(2, 255), -2);
        ChunkArray y = numbered();
        for (int i = 32; i < 511; i++) {
            y.add(0, 255, i % 2 == 0 ? 1 : -1);
        }
        due.is("the 512th call", y.get(255), 257);
    }

    private static void badRegionsChangeNothing() {
        for (int bad : BAD_CELLS) {
            ChunkArray x = numbered();
            int[][] regions = {{bad, 0}, {bad, 255}, {0, bad}, {255, bad}, {bad, bad}};
            for (int[] r : regions) {
                String on = "(" + r[0] + ", " + r[1] + ")";
                due.is("fill" + on, x.fill(r[0], r[1], 5), -1);
                due.is("add" + on, x.add(r[0], r[1], 5), -1);
                due.is("scale" + on, x.scale(r[0], r[1], 5), -1);
                due.is("copy" + on, x.copy(r[0], r[1], 17), -1);
                due.is("copy" + on + " to the same", x.copy(r[0], r[1], bad), -1);
                due.is("sum" + on, x.sum(r[0], r[1]), -1);
                due.is("greatest" + on, x.greatest(r[0], r[1]), -1);
                due.is("count" + on, x.count(r[0], r[1], 5), -1);
            }
            due.is("copy to " + bad, x.copy(0, 17, bad), -1);
            isNumbered("after bad cells", x);
        }
    }

    private static void badVersionsChangeNothing() {
        ChunkArray x = numbered();
        x.keep(1);
        x.add(0, 255, 1);
        for (int bad : BAD_VERSIONS) {
            due.is("keep(" + bad + ")", x.keep(bad), -2);
            due.is("restore(" + bad + ")", x.restore(bad), -2);
            due.is("drop(" + bad + ")", x.drop(bad), -2);
            due.is("differ(" + bad + ")", x.differ(bad), -2);
        }
        due.is("keep(1), taken", x.keep(1), -3);
        due.is("differ(1)", x.differ(1), 256);
        due.is("getOf(1, 0)", x.getOf(1, 0), 1);
        x.add(0, 255, -1);
        isNumbered("after bad versions", x);
        for (int v = 0; v < 4; v++) {
            due.is("getOf(" + v + ", 3)", x.getOf(v, 3), v == 1 ? 4 : -2);
        }
    }

    private static void objectsAreApart() {
        ChunkArray x = numbered();
        x.keep(0);
        ChunkArray y = new ChunkArray();
        due.is("another object's cells", y.count(0, 255, 0), 256);
        due.is("another object's version", y.keep(0), 0);
        y.fill(0, 255, 1);
        due.is("the first one's version", x.differ(0), 0);
        isNumbered("apart", x);
    }
}
