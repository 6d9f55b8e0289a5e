import java.io.IOException;
import java.nio.file.Files;
import java.nio.file.Path;
import java.util.List;
import java.util.regex.Matcher;
import java.util.regex.Pattern;

/** The example of README.md answers what stands behind it; the path is the third argument. */
public final class ReadmeTests {
    private static final Check CHECK = new Check("ReadmeTests");
    private static final Pattern CALL =
            Pattern.compile("(?:int \\w+ = )?(sweeps\\.\\w+\\(.*\\)); +// (-?\\d+|true|false)\\b.*");

    public static void main(String[] args) throws IOException {
        List<String> calls = Files.readAllLines(Path.of(args[2])).stream().filter(line -> line.contains("sweeps.")).toList();
        List<String> answers = answers();
        CHECK.same("calls of the example", calls.size(), answers.size());
        for (int i = 0; i < calls.size() && i < answers.size(); i++) {
            Matcher matcher = CALL.matcher(calls.get(i));
            boolean readable = matcher.matches();
            CHECK.yes("has a call and its answer: " + calls.get(i), readable);
            if (readable) {
                CHECK.text("README.md", matcher.group(1) + " // " + matcher.group(2), answers.get(i));
            }
        }
        CHECK.end();
    }

    private static List<String> answers() {
        EdgeSweeps sweeps = new EdgeSweeps(2);
        int polygon = sweeps.polygon(0);
        boolean first = sweeps.corner(polygon, 2, 2);
        boolean second = sweeps.corner(polygon, 6, 2);
        boolean third = sweeps.corner(polygon, 6, 6);
        boolean fourth = sweeps.corner(polygon, 2, 6);
        int grown = sweeps.size(0, 1, false);
        int ring = sweeps.op(2, grown, 0);
        return List.of(
                "sweeps.polygon(0) // " + polygon,
                "sweeps.corner(polygon, 2, 2) // " + first,
                "sweeps.corner(polygon, 6, 2) // " + second,
                "sweeps.corner(polygon, 6, 6) // " + third,
                "sweeps.corner(polygon, 2, 6) // " + fourth,
                "sweeps.size(0, 1, false) // " + grown,
                "sweeps.op(2, grown, 0) // " + ring,
                "sweeps.shapes(ring) // " + sweeps.shapes(ring),
                "sweeps.at(ring, 0, 1, 0) // " + sweeps.at(ring, 0, 1, 0),
                "sweeps.in(ring, 3, 3) // " + sweeps.in(ring, 3, 3),
                "sweeps.area2(ring, 0) // " + sweeps.area2(ring, 0),
                "sweeps.area2(ring, 1) // " + sweeps.area2(ring, 1),
                "sweeps.edge(ring, 0, 2) // " + sweeps.edge(ring, 0, 2),
                "sweeps.trapezoid(ring, 1, 3) // " + sweeps.trapezoid(ring, 1, 3),
                "sweeps.touching(0, ring, 0) // " + sweeps.touching(0, ring, 0));
    }
}
