import java.util.HashMap;
import java.util.Map;

/**
 * Long runs of mixed calls against a second, slower reading of the document. The arguments come from
 * a fixed sequence, so every run is the same one.
 */
public final class ModelTest {
    private static final int RUNS = 1500;
    private static final int CALLS = 250;
    private static final int[] CELL_EDGES = {-1, 256, 0, 255, 15, 240, Integer.MIN_VALUE, Integer.MAX_VALUE};
    private static final int[] VALUES = {0, 1, -1, 2, 3, -7, 65536, Integer.MIN_VALUE, Integer.MAX_VALUE};
    private static final String[] NAMES = {
        "fill", "add", "scale", "copy", "keep", "restore", "drop",
        "get", "getOf", "sum", "greatest", "differ", "count",
    };

    private static final Due due = new Due("model");
    private static long seed = 20261115;

    public static void main(String[] args) {
        for (int run = 0; run < RUNS; run++) {
            oneRun(run);
        }
        due.end();
    }

    private static int next(int bound) {
        seed = seed * 6364136223846793005L + 1442695040888963407L;
        return (int) ((seed >>> 33) % bound);
    }

    private static int someCell() {
        return next(12) == 0 ? CELL_EDGES[next(CELL_EDGES.length)] : next(256);
    }

    private static int someVersion() {
        return next(6) - 1;
    }

    private static void oneRun(int run) {
        ChunkArray x = new ChunkArray();
        Model model = new Model();
        for (int i = 0; i < CALLS; i++) {
            String name = NAMES[next(NAMES.length)];
            int a = someCell();
            int b = someCell();
            int at = someCell();
            int v = someVersion();
            int value = next(4) == 0 ? next(9) - 4 : VALUES[next(VALUES.length)];
            String call = "run " + run + ", call " + i + ": " + name + " with from " + a + ", to " + b
                + ", at " + at + ", version " + v + ", value " + value;
            due.is(call, answer(x, name, a, b, at, v, value), model.answer(name, a, b, at, v, value));
        }
        for (int c = 0; c < 256; c++) {
            due.is("run " + run + ", at the end: get(" + c + ")", x.get(c), model.present.get(c));
        }
    }

    private static int answer(ChunkArray x, String name, int a, int b, int at, int v, int value) {
        return switch (name) {
            case "fill" -> x.fill(a, b, value);
            case "add" -> x.add(a, b, value);
            case "scale" -> x.scale(a, b, value);
            case "copy" -> x.copy(a, b, at);
            case "keep" -> x.keep(v);
            case "restore" -> x.restore(v);
            case "drop" -> x.drop(v);
            case "get" -> x.get(a);
            case "getOf" -> x.getOf(v, a);
            case "sum" -> x.sum(a, b);
            case "greatest" -> x.greatest(a, b);
            case "differ" -> x.differ(v);
            default -> x.count(a, b, value);
        };
    }

    /** Asks of each of the 256 cells whether it lies in the region, and holds arrays as maps. */
    private static final class Model {
        Map<Integer, Integer> present = new HashMap<>();
        final Map<Integer, Map<Integer, Integer>> versions = new HashMap<>();

        Model() {
            for (int c = 0; c < 256; c++) {
                present.put(c, 0);
            }
        }

        int answer(String name, int a, int b, int at, int v, int value) {
            return switch (name) {
                case "keep" -> keep(v);
                case "restore" -> restore(v);
                case "drop" -> versions.remove(v) == null ? -2 : 0;
                case "differ" -> versions.containsKey(v) ? differ(v) : -2;
                case "get" -> present.getOrDefault(a, -1);
                case "getOf" -> !present.containsKey(a) ? -1 : versions.containsKey(v) ? versions.get(v).get(a) : -2;
                case "copy" -> bad(a) || bad(b) || bad(at) ? -1 : copy(a, b, at);
                default -> bad(a) || bad(b) ? -1 : onRegion(name, a, b, value);
            };
        }

        private static boolean bad(int cell) {
            return cell < 0 || cell > 255;
        }

        private static boolean between(int x, int one, int other) {
            return (one <= x && x <= other) || (other <= x && x <= one);
        }

        private static boolean inside(int c, int a, int b) {
            return between(c % 16, a % 16, b % 16) && between(c / 16, a / 16, b / 16);
        }

        private int keep(int v) {
            if (v < 0 || v > 3) {
                return -2;
            }
            return versions.putIfAbsent(v, new HashMap<>(present)) == null ? 0 : -3;
        }

        private int restore(int v) {
            if (!versions.containsKey(v)) {
                return -2;
            }
            int changed = differ(v);
            present = new HashMap<>(versions.get(v));
            return changed;
        }

        private int differ(int v) {
            int different = 0;
            for (int c = 0; c < 256; c++) {
                different += present.get(c).equals(versions.get(v).get(c)) ? 0 : 1;
            }
            return different;
        }

        private int copy(int a, int b, int at) {
            Map<Integer, Integer> after = new HashMap<>(present);
            int down = at % 16 - Math.min(a % 16, b % 16);
            int right = at / 16 - Math.min(a / 16, b / 16);
            int written = 0;
            for (int c = 0; c < 256; c++) {
                int row = c % 16 + down;
                int column = c / 16 + right;
                if (inside(c, a, b) && between(row, 0, 15) && between(column, 0, 15)) {
                    after.put(row + 16 * column, present.get(c));
                    written++;
                }
            }
            present = after;
            return written;
        }

        private int onRegion(String name, int a, int b, int value) {
            int cells = 0;
            int sum = 0;
            int equal = 0;
            int greatest = Integer.MIN_VALUE;
            for (int c = 0; c < 256; c++) {
                if (!inside(c, a, b)) {
                    continue;
                }
                int old = present.get(c);
                cells++;
                sum += old;
                equal += old == value ? 1 : 0;
                greatest = Math.max(greatest, old);
                switch (name) {
                    case "fill" -> present.put(c, value);
                    case "add" -> present.put(c, old + value);
                    case "scale" -> present.put(c, old * value);
                    default -> { }
                }
            }
            return switch (name) {
                case "sum" -> sum;
                case "greatest" -> greatest;
                case "count" -> equal;
                default -> cells;
            };
        }
    }
}
