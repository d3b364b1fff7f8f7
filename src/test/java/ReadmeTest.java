import java.io.IOException;
import java.nio.file.Files;
import java.nio.file.Path;
import java.util.Arrays;
import java.util.regex.Matcher;
import java.util.regex.Pattern;

/** The example in README.md: each line "x.call(..); // answer: .." answers what it says. */
public final class ReadmeTest {
    private static final Pattern CALL = Pattern.compile("^x\\.(\\w+)\\(([-0-9, ]+)\\); +// (-?\\d+): .*");

    public static void main(String[] args) throws IOException {
        Due due = new Due();
        QuadPictures x = new QuadPictures();
        for (String line : Files.readAllLines(Path.of("README.md"))) {
            Matcher call = CALL.matcher(line);
            if (call.matches()) {
                int[] arguments = Arrays.stream(call.group(2).split(", *")).mapToInt(Integer::parseInt).toArray();
                due.due(line, Scene.call(x, call.group(1), arguments), Integer.parseInt(call.group(3)));
            } else if (line.startsWith("x.")) {
                // A line of another form would go untested.
                due.due("answers told by " + line, 0, 1);
            }
        }
        due.end();
    }
}
