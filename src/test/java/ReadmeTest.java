import java.io.IOException;
import java.nio.file.Files;
import java.nio.file.Path;
import java.util.regex.Matcher;
import java.util.regex.Pattern;

/** Does what README.md shows, line by line, and compares the answers that it tells. */
public final class ReadmeTest extends Bench {
    private static final Pattern MADE = Pattern.compile("RangeTeller teller = new RangeTeller\\(\\);");
    private static final Pattern FED = Pattern.compile("for \\(int b : new int\\[\\] \\{([0-9, ]+)\\}\\) \\{");
    private static final Pattern CALL = Pattern.compile("teller\\.(\\w+)\\(([-0-9, ]*)\\); *// (\\w+|-\\d+)(,.*)?");
    private static final Pattern PASSED_OVER = Pattern.compile("|//.*|\\}|    teller\\.feed\\(b\\);");
    private static RangeTeller teller = new RangeTeller();

    public static void main(String[] args) throws IOException {
        String text = Files.readString(Path.of("README.md"));
        sentence("README.md says how to use the class");
        int begin = text.indexOf("```java\n") + 8;
        for (String line : text.substring(begin, text.indexOf("```", begin)).split("\n")) {
            about = line;
            follow(line);
        }
        finish();
    }

    private static void follow(String line) {
        Matcher fed = FED.matcher(line);
        Matcher call = CALL.matcher(line);
        if (MADE.matcher(line).matches()) {
            teller = new RangeTeller();
        } else if (fed.matches()) {
            feed(teller, numbers(fed.group(1)));
        } else if (call.matches()) {
            due(call.group(1), answer(call.group(1), numbers(call.group(2))), told(call.group(3)));
        } else {
            due("a line that is understood", PASSED_OVER.matcher(line).matches(), true);
        }
    }

    private static int[] numbers(String text) {
        String[] words = text.trim().isEmpty() ? new String[0] : text.trim().split(" *, *");
        int[] numbers = new int[words.length];
        for (int i = 0; i < words.length; i++) {
            numbers[i] = Integer.parseInt(words[i]);
        }
        return numbers;
    }

    private static int told(String word) {
        switch (word) {
            case "MALFORMED":
                return MALFORMED;
            case "INVALID":
                return INVALID;
            case "NONE":
                return NONE;
            case "true":
                return 1;
            case "false":
                return 0;
            default:
                return Integer.parseInt(word);
        }
    }

    private static int answer(String name, int[] a) {
        switch (name) {
            case "feed":
                return teller.feed(a[0]) ? 1 : 0;
            case "load":
                return teller.load();
            case "place":
                return teller.place();
            case "input":
                return teller.input(a[0]);
            case "run":
                return teller.run(a[0], a[1], a[2]);
            case "outcome":
                return teller.outcome(a[0]);
            case "output":
                return teller.output(a[0]);
            case "memory":
                return teller.memory(a[0]);
            case "instruction":
                return teller.instruction(a[0], a[1]);
            case "operand":
                return teller.operand(a[0], a[1]);
            case "local":
                return teller.local(a[0], a[1]);
            case "cell":
                return teller.cell(a[0]);
            default:
                return teller.function(a[0], a[1]);
        }
    }
}
