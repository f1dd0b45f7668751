import java.io.IOException;
import java.nio.file.Files;
import java.nio.file.Path;
import java.util.regex.Matcher;
import java.util.regex.Pattern;

/** The calls in README.md answer what stands behind them, in the program and in the model. */
public final class ReadmeTest {
    private static final Pattern CALL = Pattern.compile("desk\\.(\\w+)\\(([^)]*)\\); +// (-?\\d+|true|false)\\b.*");

    public static void main(String[] args) throws IOException {
        Checks checks = new Checks();
        Twin twin = new Twin();
        int calls = 0;
        for (String line : Files.readAllLines(Path.of("README.md"))) {
            Matcher call = CALL.matcher(line);
            if (call.matches()) {
                calls++;
                String got = twin.ask(call.group(1), numbers(call.group(2)));
                checks.due(line, Long.parseLong(got), number(call.group(3)));
            } else {
                checks.isTrue("a call with its answer: " + line, !line.startsWith("desk."));
            }
        }
        checks.isTrue("README.md has calls", calls > 10);
        checks.isTrue(twin.story(), !twin.failed());
        checks.end();
    }

    private static long[] numbers(String arguments) {
        String[] parts = arguments.split(", *");
        long[] numbers = new long[parts.length];
        for (int i = 0; i < parts.length; i++) {
            numbers[i] = number(parts[i]);
        }
        return numbers;
    }

    private static long number(String text) {
        if (text.equals("true") || text.equals("false")) {
            return text.equals("true") ? 1 : 0;
        }
        String digits = text.replace("_", "");
        return digits.startsWith("0b") ? Long.parseLong(digits.substring(2), 2) : Long.parseLong(digits);
    }
}
