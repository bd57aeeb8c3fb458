import java.io.IOException;
import java.lang.reflect.Method;
import java.lang.reflect.Modifier;
import java.nio.file.DirectoryStream;
import java.nio.file.Files;
import java.nio.file.Path;
import java.util.Map;
import java.util.regex.Matcher;
import java.util.regex.Pattern;

/** README.md holds: its example answers as it says there, and it leaves out no call and no test. */
public final class ReadmeTest {
    private static final Path README = Path.of("README.md");
    private static final Path TESTS = Path.of("src/test/java");
    private static final Pattern CALL = Pattern.compile("x\\.(\\w+)\\(([^)]*)\\);\\s*// (-?\\w+): .+");
    private static final Map<String, Integer> REFUSALS = Map.of(
        "BAD", Run.BAD, "NONE", Run.NONE, "FULL", Run.FULL, "GONE", Run.GONE, "EXISTS", Run.EXISTS);

    private ReadmeTest() {
    }

    public static void main(String[] args) throws IOException {
        String text = Files.readString(README);
        exampleAnswersAsItSays(text);
        everyCallIsTold(text);
        everyRefusalIsTold(text);
        everyTestIsTold(text);
        Due.end();
    }

    private static void exampleAnswersAsItSays(String text) {
        Run run = new Run("README.md");
        for (String line : text.split("\n")) {
            if (line.startsWith("x.")) {
                Matcher call = CALL.matcher(line);
                Due.holds("README.md tells a call and its answer: " + line, call.matches());
                if (call.matches()) {
                    run.due(answer(call.group(3)), call.group(1), arguments(call.group(2)));
                }
            }
        }
        Due.holds("README.md has an example", run.calls() > 0);
    }

    private static int answer(String word) {
        return REFUSALS.containsKey(word) ? REFUSALS.get(word) : Integer.parseInt(word);
    }

    private static int[] arguments(String list) {
        if (list.isBlank()) {
            return new int[0];
        }
        String[] words = list.split(",");
        int[] arguments = new int[words.length];
        for (int i = 0; i < words.length; i++) {
            arguments[i] = sum(words[i]);
        }
        return arguments;
    }

    private static int sum(String word) {
        int sum = 0;
        for (String product : word.split("\\+")) {
            int value = 1;
            for (String factor : product.split("\\*")) {
                value *= Integer.parseInt(factor.strip());
            }
            sum += value;
        }
        return sum;
    }

    private static void everyCallIsTold(String text) {
        for (Method method : MailSessions.class.getDeclaredMethods()) {
            if (Modifier.isPublic(method.getModifiers())) {
                String start = "| `" + method.getName() + "(";
                Due.holds("README.md has a row for " + method.getName(), text.contains(start));
            }
        }
    }

    private static void everyRefusalIsTold(String text) {
        for (Map.Entry<String, Integer> refusal : REFUSALS.entrySet()) {
            String told = "`" + refusal.getKey() + "` (" + refusal.getValue() + ")";
            Due.holds("README.md tells " + told, text.contains(told));
        }
    }

    private static void everyTestIsTold(String text) throws IOException {
        try (DirectoryStream<Path> tests = Files.newDirectoryStream(TESTS, "*.java")) {
            for (Path test : tests) {
                Due.holds("README.md tells of " + test, text.contains(test.getFileName().toString()));
            }
        }
    }
}
