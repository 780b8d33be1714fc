/** The boundary cases of the calls on versions, one test for each sentence that names one. */
public final class VersionBoundaryTest {
    private static final int LEAST = Integer.MIN_VALUE;
    private static final int MOST = Integer.MAX_VALUE;
    /** Just too small, just too large, far off, and some that fall on 0 to 3 if cut or multiplied. */
    private static final int[] BAD = {-1, 4, -4, 5, 8, 256, 65536, 1 << 24, 1 << 30, LEAST, MOST};
    private static final int[] BAD_CELLS = {-1, 256, -256, 1023, 1024, LEAST, MOST};
    private static final int[] VALUES = {0, 1, -1, -2, -3, LEAST, MOST};
    private static final Due due = new Due("version boundaries");

    public static void main(String[] args) {
        newObjectHasNoVersions();
        upToFourVersions();
        keepRefusedForItsNumber();
        keepRefusedAsTaken();
        keepTakesThePresentArray();
        keepOfEveryKindOfValue();
        keepLeavesTheRest();
        restoreRefused();
        restoreMakesThePresentArray();
        restoreCountsWhatItChanged();
        restoredVersionStays();
        restoreLeavesOtherVersions();
        dropRefused();
        dropMakesRoom();
        dropLeavesTheRest();
        getOfRefused();
        getOfAtTheEnds();
        differRefused();
        differAtTheEnds();
        readingChangesNothing();
        keepTestsTheNumberFirst();
        getOfTestsTheCellFirst();
        due.end();
    }

    /** Promise 1: "no versions", for each call that asks for one. */
    private static void newObjectHasNoVersions() {
        for (int v = 0; v < 4; v++) {
            due.is("new: restore(" + v + ")", new ChunkArray().restore(v), -2);
            due.is("new: drop(" + v + ")", new ChunkArray().drop(v), -2);
            due.is("new: getOf(" + v + ", 0)", new ChunkArray().getOf(v, 0), -2);
            due.is("new: getOf(" + v + ", 255)", new ChunkArray().getOf(v, 255), -2);
            due.is("new: differ(" + v + ")", new ChunkArray().differ(v), -2);
            due.is("new: keep(" + v + ")", new ChunkArray().keep(v), 0);
        }
    }

    /** "Up to four VERSIONS (0 to 3)": all four at once, each with contents of its own. */
    private static void upToFourVersions() {
        int[][] orders = {{0, 1, 2, 3}, {3, 2, 1, 0}, {2, 0, 3, 1}};
        for (int[] order : orders) {
            ChunkArray x = new ChunkArray();
            for (int v : order) {
                x.fill(0, 255, 70 + v);
                x.fill(255, 255, 80 + v);
                due.is("keep(" + v + ")", x.keep(v), 0);
            }
            for (int v = 0; v < 4; v++) {
                due.is("getOf(" + v + ", 0)", x.getOf(v, 0), 70 + v);
                due.is("getOf(" + v + ", 254)", x.getOf(v, 254), 70 + v);
                due.is("getOf(" + v + ", 255)", x.getOf(v, 255), 80 + v);
                due.is("differ(" + v + ")", x.differ(v), v == order[3] ? 0 : 256);
            }
        }
    }

    /** Promise 6: "version not in 0 to 3: BAD_VERSION .. nothing changes then". */
    private static void keepRefusedForItsNumber() {
        for (Scene scene : Scene.ALL) {
            for (int bad : BAD) {
                scene.staysAfter(due, "keep(" + bad + ")", x -> x.keep(bad), -2);
            }
        }
    }

    /** Promise 6: "there is one of this number: TAKEN; nothing changes then". */
    private static void keepRefusedAsTaken() {
        for (Scene scene : Scene.ALL) {
            for (int v = 0; v < 4; v++) {
                int version = v;
                if (scene.has(version)) {
                    scene.staysAfter(due, "keep(" + version + ")", x -> x.keep(version), -3);
                }
            }
        }
    }

    /** Promise 6: the array as it is at the call, whatever comes later. */
    private static void keepTakesThePresentArray() {
        for (int v = 0; v < 4; v++) {
            ChunkArray x = Scene.numbered();
            due.is("keep(" + v + ")", x.keep(v), 0);
            due.is("nothing differs", x.differ(v), 0);
            x.scale(0, 255, -1);
            x.copy(0, 100, 100);
            for (int c = 0; c < 256; c++) {
                due.is("kept, getOf(" + v + ", " + c + ")", x.getOf(v, c), c + 1);
            }
        }
    }

    /** Promises 6, 7 and 10 with the ends of the ints and the numbers of the refusals. */
    private static void keepOfEveryKindOfValue() {
        for (int value : VALUES) {
            ChunkArray x = Scene.numbered();
            x.fill(9, 9, value);
            x.keep(1);
            x.fill(9, 9, 1234);
            due.is("getOf(1, 9)", x.getOf(1, 9), value);
            due.is("restore(1)", x.restore(1), 1);
            due.is("get(9)", x.get(9), value);
        }
    }

    /** Promise 6: a version that is added changes neither the present array nor other versions. */
    private static void keepLeavesTheRest() {
        ChunkArray x = Scene.SOME.make();
        x.keep(1);
        x.keep(3);
        for (int c = 0; c < 256; c++) {
            due.is("kept more, get(" + c + ")", x.get(c), c + 1);
        }
        for (int v = 0; v < 4; v += 2) {
            ChunkArray y = Scene.SOME.make();
            y.keep(1);
            y.keep(3);
            for (int c = 0; c < 256; c++) {
                due.is("kept more, getOf(" + v + ", " + c + ")", y.getOf(v, c), Scene.SOME.of(v, c));
            }
        }
    }

    /** A call that is refused where there is no version. */
    private interface OnVersion {
        int call(ChunkArray x, int version);
    }

    /** Wrong numbers, numbers never kept, and numbers that were dropped. */
    private static void refused(String name, OnVersion made) {
        for (Scene scene : Scene.ALL) {
            for (int bad : BAD) {
                scene.staysAfter(due, name + "(" + bad + ")", x -> made.call(x, bad), -2);
            }
            for (int v = 0; v < 4; v++) {
                int version = v;
                if (!scene.has(version)) {
                    scene.staysAfter(due, name + "(" + version + ")", x -> made.call(x, version), -2);
                    scene.staysAfter(due, name + "(" + version + "), dropped", x -> {
                        x.keep(version);
                        x.drop(version);
                        return made.call(x, version);
                    }, -2);
                }
            }
        }
    }

    /** Promise 7: "There is none: BAD_VERSION, nothing changes". */
    private static void restoreRefused() {
        refused("restore", (x, version) -> x.restore(version));
    }

    /** Promise 7: "The present array becomes as the version is", from one version to the next. */
    private static void restoreMakesThePresentArray() {
        for (int v = 0; v < 4; v++) {
            ChunkArray x = Scene.FULL.make();
            x.restore(3 - v);
            x.fill(3, 77, 5);
            x.restore(v);
            for (int c = 0; c < 256; c++) {
                due.is("restore(" + v + "), get(" + c + ")", x.get(c), Scene.FULL.of(v, c));
            }
            due.is("restore(" + v + "), differ", x.differ(v), 0);
        }
    }

    /** Promise 7: "how many cells this changed": none, one at either end, all, and not what was written. */
    private static void restoreCountsWhatItChanged() {
        for (int v = 0; v < 4; v++) {
            ChunkArray x = Scene.numbered();
            x.keep(v);
            due.is("restore, none changed", x.restore(v), 0);
            x.fill(0, 0, 1);
            due.is("restore, same value written", x.restore(v), 0);
            x.fill(0, 0, -1);
            due.is("restore, first cell", x.restore(v), 1);
            x.add(255, 255, LEAST);
            due.is("restore, last cell", x.restore(v), 1);
            x.add(0, 255, 1);
            x.add(0, 255, -1);
            due.is("restore, there and back", x.restore(v), 0);
            x.add(240, 17, 1);
            due.is("restore, a region", x.restore(v), 30);
            x.scale(0, 255, -1);
            due.is("restore, all", x.restore(v), 256);
            due.is("restore, again", x.restore(v), 0);
        }
    }

    /** Promise 7: "which stays": it can be read, restored again, and is not changed with the present. */
    private static void restoredVersionStays() {
        for (int v = 0; v < 4; v++) {
            ChunkArray x = Scene.FULL.make();
            due.is("restore(" + v + ")", x.restore(v), 256);
            due.is("keep(" + v + ")", x.keep(v), -3);
            x.fill(0, 255, -8);
            for (int c = 0; c < 256; c++) {
                due.is("stays, getOf(" + v + ", " + c + ")", x.getOf(v, c), Scene.FULL.of(v, c));
            }
            due.is("restore(" + v + ") again", x.restore(v), 256);
            due.is("restored again", x.get(255), Scene.FULL.of(v, 255));
        }
    }

    /** Promise 7 names the present array alone: other versions stay, and so do numbers without one. */
    private static void restoreLeavesOtherVersions() {
        for (int v = 0; v < 4; v++) {
            ChunkArray x = Scene.SOME.make();
            x.restore(0);
            x.restore(2);
            for (int c = 0; c < 256; c++) {
                due.is("restored, getOf(" + v + ", " + c + ")", x.getOf(v, c), Scene.SOME.of(v, c));
            }
        }
    }

    /** Promise 8: "There is none: BAD_VERSION, nothing changes". */
    private static void dropRefused() {
        refused("drop", (x, version) -> x.drop(version));
    }

    /** Promise 8: the number is free again, and what is kept then is the present array of that time. */
    private static void dropMakesRoom() {
        for (int v = 0; v < 4; v++) {
            ChunkArray x = Scene.FULL.make();
            due.is("drop(" + v + ")", x.drop(v), 0);
            due.is("drop(" + v + ") again", x.drop(v), -2);
            due.is("getOf(" + v + ", 0), dropped", x.getOf(v, 0), -2);
            due.is("differ(" + v + "), dropped", x.differ(v), -2);
            due.is("restore(" + v + "), dropped", x.restore(v), -2);
            due.is("keep(" + v + "), dropped", x.keep(v), 0);
            due.is("keep(" + v + ") again", x.keep(v), -3);
            for (int c = 0; c < 256; c++) {
                due.is("anew, getOf(" + v + ", " + c + ")", x.getOf(v, c), c + 1);
            }
        }
    }

    /** Promise 8 names one version alone: the present array and the other versions stay. */
    private static void dropLeavesTheRest() {
        for (int dropped = 0; dropped < 4; dropped++) {
            ChunkArray x = Scene.FULL.make();
            x.drop(dropped);
            for (int c = 0; c < 256; c++) {
                due.is("dropped " + dropped + ", get(" + c + ")", x.get(c), c + 1);
            }
            for (int v = 0; v < 4; v++) {
                ChunkArray y = Scene.FULL.make();
                y.drop(dropped);
                for (int c = 0; c < 256; c++) {
                    int want = v == dropped ? -2 : Scene.FULL.of(v, c);
                    due.is("dropped " + dropped + ", getOf(" + v + ", " + c + ")", y.getOf(v, c), want);
                }
            }
        }
    }

    /** Promise 10: "BAD_CELL; BAD_VERSION if there is none". */
    private static void getOfRefused() {
        refused("getOf, first cell", (x, version) -> x.getOf(version, 0));
        refused("getOf, last cell", (x, version) -> x.getOf(version, 255));
        for (int bad : BAD_CELLS) {
            for (int v = 0; v < 4; v++) {
                int version = v;
                String call = "getOf(" + v + ", " + bad + ")";
                Scene.FULL.staysAfter(due, call, x -> x.getOf(version, bad), -1);
            }
        }
    }

    /** Promise 10: the first and last cell of each version, where the next one's cells begin. */
    private static void getOfAtTheEnds() {
        ChunkArray x = Scene.FULL.make();
        x.fill(0, 255, -1);
        for (int v = 0; v < 4; v++) {
            due.is("getOf(" + v + ", 0)", x.getOf(v, 0), 1 + 1000 * (v + 1));
            due.is("getOf(" + v + ", 255)", x.getOf(v, 255), 256 + 1000 * (v + 1));
            due.is("getOf(" + v + ", 256)", x.getOf(v, 256), -1);
            due.is("getOf(" + v + ", -1)", x.getOf(v, -1), -1);
        }
    }

    /** Promise 13: "BAD_VERSION if there is none". */
    private static void differRefused() {
        refused("differ", (x, version) -> x.differ(version));
    }

    /** Promise 13: none, each single cell, all, and differences that a sum would not show. */
    private static void differAtTheEnds() {
        for (int c = 0; c < 256; c++) {
            ChunkArray x = Scene.numbered();
            x.keep(3);
            due.is("differ(3), none", x.differ(3), 0);
            x.add(c, c, LEAST);
            due.is("differ(3), cell " + c, x.differ(3), 1);
            x.add(c, c, LEAST);
            due.is("differ(3), cell " + c + " as it was", x.differ(3), 0);
        }
        ChunkArray x = Scene.numbered();
        x.keep(0);
        x.add(4, 4, 1);
        x.add(5, 5, -1);
        due.is("differ(0), the sum is the same", x.differ(0), 2);
        x.add(0, 255, MOST);
        due.is("differ(0), all", x.differ(0), 256);
    }

    /** "The calls below change nothing that any call answers", for getOf and differ. */
    private static void readingChangesNothing() {
        for (int v = 0; v < 4; v++) {
            int version = v;
            for (int c = 0; c < 256; c += 51) {
                int cell = c;
                String call = "getOf(" + v + ", " + c + ")";
                Scene.FULL.staysAfter(due, call, x -> x.getOf(version, cell), Scene.FULL.of(v, c));
            }
            Scene.FULL.staysAfter(due, "differ(" + v + ")", x -> x.differ(version), 256);
        }
    }

    /** Promise 15: "keep: BAD_VERSION is tested before TAKEN". */
    private static void keepTestsTheNumberFirst() {
        for (int bad : BAD) {
            due.is("all taken, keep(" + bad + ")", Scene.FULL.make().keep(bad), -2);
        }
    }

    /** "BAD_CELL first", and promise 15: "getOf: BAD_CELL before BAD_VERSION". */
    private static void getOfTestsTheCellFirst() {
        for (int badCell : BAD_CELLS) {
            for (int bad : BAD) {
                String call = "getOf(" + bad + ", " + badCell + ")";
                Scene.SOME.staysAfter(due, call, x -> x.getOf(bad, badCell), -1);
            }
            for (int v = 0; v < 4; v++) {
                due.is("no version, getOf(" + v + ", " + badCell + ")", new ChunkArray().getOf(v, badCell), -1);
            }
        }
    }
}
