import java.util.function.ToIntFunction;

/**
 * A known state, and a look at all that later calls answer about it. An object has only 512 calls, so
 * each part of the state is looked at on an object of its own, brought to the same state.
 */
final class Scene {
    static final Scene EMPTY = new Scene("no version");
    static final Scene SOME = new Scene("versions 0 and 2", 0, 2);
    static final Scene OTHERS = new Scene("versions 1 and 3", 1, 3);
    static final Scene FULL = new Scene("all versions", 0, 1, 2, 3);
    static final Scene[] ALL = {EMPTY, SOME, OTHERS, FULL};

    private final String name;
    private final boolean[] kept = new boolean[4];

    private Scene(String name, int... versions) {
        this.name = name;
        for (int version : versions) {
            kept[version] = true;
        }
    }

    static int cell(int row, int column) {
        return row + 16 * column;
    }

    /** An array whose cells all differ: cell c holds c + 1, made with 32 calls. */
    static ChunkArray numbered() {
        ChunkArray x = new ChunkArray();
        for (int i = 0; i < 16; i++) {
            x.add(cell(i, 0), cell(i, 15), i + 1);
            x.add(cell(0, i), cell(15, i), 16 * i);
        }
        return x;
    }

    /**
     * The numbered array, and versions with more in each cell: as no two of these arrays agree anywhere,
     * no cell can go from one to another unseen. It takes 32 calls and 3 for each version.
     */
    ChunkArray make() {
        ChunkArray x = numbered();
        for (int v = 0; v < 4; v++) {
            if (kept[v]) {
                x.add(0, 255, 1000 * (v + 1));
                x.keep(v);
                x.add(0, 255, -1000 * (v + 1));
            }
        }
        return x;
    }

    boolean has(int version) {
        return version >= 0 && version < 4 && kept[version];
    }

    /** What getOf has to answer for a cell of 0 to 255. */
    int of(int version, int cell) {
        return has(version) ? cell + 1 + 1000 * (version + 1) : -2;
    }

    /** The call has the answer that is due, and every later call answers as if it had not been made. */
    void staysAfter(Due due, String call, ToIntFunction<ChunkArray> made, int want) {
        String when = name + ": after " + call;
        ChunkArray x = make();
        due.is(name + ": " + call, made.applyAsInt(x), want);
        due.is(name + ": " + call + " again", made.applyAsInt(x), want);
        presentStays(due, when, x);
        for (int v = 0; v < 4; v++) {
            versionStays(due, when, after(made), v);
            laterCallsStay(due, when, made, v);
        }
    }

    private ChunkArray after(ToIntFunction<ChunkArray> made) {
        ChunkArray x = make();
        made.applyAsInt(x);
        return x;
    }

    private static void presentStays(Due due, String when, ChunkArray x) {
        for (int c = 0; c < 256; c++) {
            due.is(when + ", get(" + c + ")", x.get(c), c + 1);
        }
        due.is(when + ", sum(0, 255)", x.sum(0, 255), 32896);
        due.is(when + ", greatest(0, 255)", x.greatest(0, 255), 256);
        due.is(when + ", count(0, 255, 77)", x.count(0, 255, 77), 1);
        due.is(when + ", copy(0, 255, 1)", x.copy(0, 255, 1), 240);
        due.is(when + ", copied", x.get(255), 255);
    }

    private void versionStays(Due due, String when, ChunkArray x, int version) {
        for (int c = 0; c < 256; c++) {
            due.is(when + ", getOf(" + version + ", " + c + ")", x.getOf(version, c), of(version, c));
        }
        due.is(when + ", differ(" + version + ")", x.differ(version), kept[version] ? 256 : -2);
    }

    /** Calls that change the state come each to an object that has seen nothing else since. */
    private void laterCallsStay(Due due, String when, ToIntFunction<ChunkArray> made, int version) {
        String on = "(" + version + ")";
        ChunkArray x = after(made);
        due.is(when + ", keep" + on, x.keep(version), kept[version] ? -3 : 0);
        due.is(when + ", kept", x.getOf(version, 0), kept[version] ? of(version, 0) : 1);
        x = after(made);
        due.is(when + ", drop" + on, x.drop(version), kept[version] ? 0 : -2);
        x = after(made);
        due.is(when + ", restore" + on, x.restore(version), kept[version] ? 256 : -2);
        for (int c = 0; c < 256; c++) {
            int want = kept[version] ? of(version, c) : c + 1;
            due.is(when + ", restore" + on + ", get(" + c + ")", x.get(c), want);
        }
    }
}
