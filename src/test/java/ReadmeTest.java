import java.io.IOException;
import java.lang.reflect.Method;
import java.lang.reflect.Modifier;
import java.nio.file.Files;
import java.nio.file.Path;
import java.util.Collections;
import java.util.regex.Matcher;
import java.util.regex.Pattern;

/** What README.md shows of the class is so: the answers of its example, and the calls in its table. */
public final class ReadmeTest {
    private static final Path README = Path.of("README.md");
    private static final Pattern EXAMPLE = Pattern.compile(
        "(?s)```java\nMatchSuite suite = new MatchSuite\\(\\);\n(.*?)```");
    private static final Pattern CALL = Pattern.compile(
        "suite\\.(\\w+\\([^)]*\\)); +// (-?\\d+|true|false|BAD|FULL): .*");

    private static final Sentences sentences = new Sentences();

    public static void main(String[] args) throws IOException {
        String readme = Files.readString(README);
        sentences.test("README.md", "Each comment begins with the call's answer", () -> testExample(readme));
        sentences.test("README.md", "The calls", () -> testTable(readme));
        sentences.end();
    }

    private static void testExample(String readme) {
        Matcher example = EXAMPLE.matcher(readme);
        boolean found = example.find();
        sentences.due("the number of examples", found ? 1 : 0, 1);
        Run run = sentences.run();
        for (String line : found ? example.group(1).split("\n") : new String[0]) {
            Matcher call = CALL.matcher(line);
            sentences.due("'" + line + "' is a call and its answer", call.matches() ? 1 : 0, 1);
            if (call.matches()) {
                dueAsTold(run, call.group(1), call.group(2));
            }
        }
    }

    private static void dueAsTold(Run run, String call, String answer) {
        switch (answer) {
            case "true": case "false":
                run.due(call, Boolean.parseBoolean(answer));
                break;
            case "BAD":
                run.due(call, MatchSuite.BAD);
                break;
            case "FULL":
                run.due(call, MatchSuite.FULL);
                break;
            default:
                run.due(call, Integer.parseInt(answer));
                break;
        }
    }

    private static void testTable(String readme) {
        for (Method method : MatchSuite.class.getDeclaredMethods()) {
            if (Modifier.isPublic(method.getModifiers())) {
                String numbers = String.join(", ", Collections.nCopies(method.getParameterCount(), "\\w+"));
                Pattern row = Pattern.compile("(?m)^\\| `" + method.getName() + "\\(" + numbers + "\\)` \\|");
                sentences.due("rows of " + method.getName(), row.matcher(readme).results().count(), 1);
            }
        }
    }
}
