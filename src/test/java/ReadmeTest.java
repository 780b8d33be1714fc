import java.io.IOException;
import java.nio.file.Files;
import java.nio.file.Path;
import java.util.ArrayList;
import java.util.List;
import java.util.regex.Matcher;
import java.util.regex.Pattern;

/** The example of README.md: each of its lines answers what stands beside it, and none is left out. */
public final class ReadmeTest {
    private static final Pattern LINE = Pattern.compile("^x\\.(.*\\)); +// (-?\\d+)\\b.*$");
    private static final Due due = new Due("readme");

    public static void main(String[] args) throws IOException {
        List<String> example = example();
        ChunkArray x = new ChunkArray();
        int i = 0;
        line(example, i++, "fill(0, 35, 7)", x.fill(0, 35, 7));
        line(example, i++, "keep(0)", x.keep(0));
        line(example, i++, "keep(0)", x.keep(0));
        line(example, i++, "add(0, 0, 1)", x.add(0, 0, 1));
        line(example, i++, "scale(3, 32, -2)", x.scale(3, 32, -2));
        line(example, i++, "copy(0, 35, 254)", x.copy(0, 35, 254));
        line(example, i++, "get(254)", x.get(254));
        line(example, i++, "getOf(0, 254)", x.getOf(0, 254));
        line(example, i++, "sum(0, 3)", x.sum(0, 3));
        line(example, i++, "greatest(0, 1)", x.greatest(0, 1));
        line(example, i++, "count(0, 255, -14)", x.count(0, 255, -14));
        line(example, i++, "differ(0)", x.differ(0));
        line(example, i++, "restore(0)", x.restore(0));
        line(example, i++, "drop(0)", x.drop(0));
        line(example, i++, "restore(0)", x.restore(0));
        line(example, i++, "get(256)", x.get(256));
        due.is("calls in the example", example.size(), i);
        due.end();
    }

    /** Each call of the example with the answer that the README tells, as "call -> answer". */
    private static List<String> example() throws IOException {
        List<String> found = new ArrayList<>();
        for (String line : Files.readAllLines(Path.of("README.md"))) {
            Matcher matcher = LINE.matcher(line);
            if (matcher.matches()) {
                found.add(matcher.group(1) + " -> " + matcher.group(2));
            }
        }
        return found;
    }

    private static void line(List<String> example, int number, String call, int answer) {
        String told = number < example.size() ? example.get(number) : "nothing";
        String done = call + " -> " + answer;
        due.holds("call " + number + ", README.md has " + told + ", done was " + done, told.equals(done));
    }
}
