import java.io.IOException;
import java.io.UncheckedIOException;
import java.nio.file.Files;
import java.nio.file.Path;
import java.util.List;
import java.util.regex.Matcher;
import java.util.regex.Pattern;

// The example in README.md: each call answers what the comment behind it says.
public final class ReadmeTest {
    private static final Pattern OBJECT = Pattern.compile("\\s*SaveUnder row = new SaveUnder\\((-?\\d+)\\);.*");
    private static final Pattern CALL =
        Pattern.compile("\\s*row\\.(show|hide|peek)\\((?:(-?\\d+)(?:, (-?\\d+))?)?\\);\\s*// (-?\\d+)\\b.*");

    private static List<String> readme() {
        try {
            return Files.readAllLines(Path.of("README.md"));
        } catch (IOException thrown) {
            throw new UncheckedIOException(thrown);
        }
    }

    private static void call(Run run, Matcher call) {
        int due = Integer.parseInt(call.group(4));
        switch (call.group(1)) {
            case "show" -> run.show(Integer.parseInt(call.group(2)), Integer.parseInt(call.group(3)), due);
            case "peek" -> run.peek(Integer.parseInt(call.group(2)), due);
            default -> run.hide(due);
        }
    }

    // A line of the example that is not understood here would go untested, so it is a failure.
    private static void example() {
        Run run = null;
        int calls = 0;
        for (String line : readme()) {
            Matcher object = OBJECT.matcher(line);
            Matcher call = CALL.matcher(line);
            if (object.matches()) {
                run = new Run(Integer.parseInt(object.group(1)));
            } else if (run != null && call.matches()) {
                call(run, call);
                calls++;
            } else if (line.strip().startsWith("row.")) {
                Answers.fail("not understood: " + line);
            }
        }
        if (calls == 0) {
            Answers.fail("no example found");
        }
    }

    public static void main(String[] args) {
        Answers.sentence("the example in README.md", ReadmeTest::example);
        Answers.end();
    }
}
