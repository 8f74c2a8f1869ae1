import java.io.IOException;
import java.nio.file.Files;
import java.nio.file.Path;
import java.util.List;

/** The example in README.md: each of its calls answers what the comment beside it tells. */
public final class ReadmeTest {
    private final JumpPoints grid = new JumpPoints();
    private final List<String> lines;
    private int told = 0;

    private ReadmeTest(List<String> lines) {
        this.lines = lines;
    }

    public static void main(String[] args) throws IOException {
        new ReadmeTest(Files.readAllLines(Path.of("README.md"))).example();
        Check.end();
    }

    private void example() {
        Check.sentence("README.md: the example's answers");
        told("wall(13, true)", grid.wall(13, true));
        told("block(4096 * 3 + 256 * 3 + 16 * 0 + 10, true)", grid.block(4096 * 3 + 256 * 3 + 16 * 0 + 10, true));
        told("isWall(13)", grid.isWall(13));
        told("distance(0, 26)", grid.distance(0, 26));
        told("distance(0, 13)", grid.distance(0, 13));
        told("nearer(0, 2, 12)", grid.nearer(0, 2, 12));
        told("vital(0, 2, 1)", grid.vital(0, 2, 1));
        told("farthest(0)", grid.farthest(0));
        told("reach(0)", grid.reach(0));
        told("at(0, 10)", grid.at(0, 10));
        told("at(0, 11)", grid.at(0, 11));
        long calls = lines.stream().filter(line -> line.startsWith("grid.")).count();
        Check.due("calls of the example that are checked here", told, calls);
    }

    private void told(String call, Object answer) {
        told++;
        String start = "grid." + call + ";";
        String comment = "// " + answer;
        boolean found = lines.stream().anyMatch(line -> line.startsWith(start)
            && (line.endsWith(comment) || line.contains(comment + ":")));
        Check.due("README.md tells that " + call + " answers " + answer, found, true);
    }
}
