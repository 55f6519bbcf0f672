import java.io.IOException;
import java.nio.file.Files;
import java.nio.file.Path;
import java.util.Arrays;
import java.util.List;
import java.util.regex.Matcher;
import java.util.regex.Pattern;
import java.util.stream.Stream;

/** The run of calls in README.md answers what stands behind each call, there and in the plain telling. */
public final class ReadmeTest extends DeskChecks {
    private static final Pattern CALL = Pattern.compile("desk\\.(\\w+)\\(([-0-9, ]*)\\); *// +(-?\\d+)(  .*)?");

    public static void main(String[] args) throws IOException {
        List<String> lines = Files.readAllLines(Path.of("README.md"));
        run(lines);
        namesEachTest(lines);
        finish("readme");
    }

    private static void run(List<String> lines) {
        SoundDesk desk = new SoundDesk();
        PlainDesk plain = new PlainDesk();
        int calls = 0;
        for (String line : lines) {
            if (!line.startsWith("desk.")) {
                continue;
            }
            Matcher told = CALL.matcher(line);
            hold(told.matches(), "no call with its answer: " + line);
            if (told.matches()) {
                int[] arguments = numbers(told.group(2));
                int answer = Integer.parseInt(told.group(3));
                due(line, answer, Desks.call(desk, told.group(1), arguments));
                due("PlainDesk, " + line, answer, plain.call(told.group(1), arguments));
                calls++;
            }
        }
        hold(calls > 0 && calls <= 512, "a run has 1 to 512 calls, not " + calls);
    }

    private static int[] numbers(String text) {
        return Arrays.stream(text.split(",")).map(String::trim).filter(number -> !number.isEmpty())
                .mapToInt(Integer::parseInt).toArray();
    }

    private static void namesEachTest(List<String> lines) throws IOException {
        String text = String.join("\n", lines);
        hold(text.contains("    .ci/run\n"), "README.md does not say how the tests are run");
        try (Stream<Path> files = Files.list(Path.of("src/test/java"))) {
            for (Path file : files.toList()) {
                String name = file.getFileName().toString().replace(".java", "");
                hold(!name.endsWith("Test") || text.contains("`" + name + "`"), "README.md does not name " + name);
            }
        }
    }
}
