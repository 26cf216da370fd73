import java.io.IOException;
import java.nio.file.Files;
import java.nio.file.Path;
import java.util.ArrayList;
import java.util.List;
import java.util.regex.Matcher;
import java.util.regex.Pattern;

/** Makes the calls of README.md's example, each with the answer that stands beside it. */
public final class ReadmeTest {
    private static final Pattern MADE = Pattern.compile("RoundedFloats x = new RoundedFloats\\((\\d+)\\);");
    private static final Pattern CALLED = Pattern.compile("x\\.(\\w+\\([^)]*\\)); +// answers (-?\\w+).*");

    private static List<String> example() throws IOException {
        List<String> lines = Files.readAllLines(Path.of("README.md"));
        int start = lines.indexOf("```java") + 1;
        int length = lines.subList(start, lines.size()).indexOf("```");
        return lines.subList(start, start + length);
    }

    private static Matcher matched(Pattern pattern, String line) {
        Matcher parts = pattern.matcher(line);
        if (!parts.matches()) {
            throw new IllegalArgumentException(line);
        }
        return parts;
    }

    public static void main(String[] args) throws IOException {
        List<String> lines = example();
        int precision = Integer.parseInt(matched(MADE, lines.get(0)).group(1));
        List<String> calls = new ArrayList<>();
        for (String line : lines.subList(1, lines.size())) {
            Matcher parts = matched(CALLED, line);
            calls.add(parts.group(1) + " = " + parts.group(2));
        }
        Runs.sentence("README.md's example");
        Runs.run(precision, calls.toArray(new String[0]));
        Runs.end();
    }
}
