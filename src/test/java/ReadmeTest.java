import java.io.IOException;
import java.lang.reflect.Field;
import java.lang.reflect.Method;
import java.lang.reflect.Modifier;
import java.nio.file.Files;
import java.nio.file.Path;
import java.util.List;
import java.util.regex.Matcher;
import java.util.regex.Pattern;
import java.util.stream.Stream;

/** README.md: its examples answer as it says, and it tells every call, every answer below 0 and every test. */
public final class ReadmeTest {
    private static final Pattern EXAMPLE = Pattern.compile("x\\.(\\w+)\\((.*)\\); +// (-?\\w+(?: \\w+)?)(?::.*)?");

    public static void main(String[] args) throws IOException, IllegalAccessException {
        List<String> lines = Files.readAllLines(Path.of("README.md"));
        examplesAnswerAsTold(lines);
        everyCallHasAnExample(lines);
        everyAnswerIsTold(lines);
        everyTestIsTold(lines);
        Due.end();
    }

    private static void examplesAnswerAsTold(List<String> lines) {
        Run run = null;
        for (String line : lines) {
            if (line.equals("MappingMoves x = new MappingMoves();")) {
                run = new Run("README.md");
            } else if (line.startsWith("x.")) {
                Matcher example = EXAMPLE.matcher(line);
                boolean read = run != null && example.matches();
                Due.holds("README.md: an example tells its answer: " + line, read);
                if (read) {
                    run.rows(asRow(example.group(1), example.group(2), example.group(3)));
                }
            }
        }
    }

    /** An example as Run reads it. */
    private static String asRow(String call, String numbers, String answer) {
        StringBuilder row = new StringBuilder(call);
        for (String number : numbers.isEmpty() ? new String[0] : numbers.split(", ")) {
            boolean byEight = number.length() > 1 && number.startsWith("0");
            row.append(byEight ? " o" : " ").append(number);
        }
        return row.append(" = ").append(answer.equals("throws NullPointerException") ? "NULL"
                : answer.equals("throws ArrayIndexOutOfBoundsException") ? "BOUNDS" : answer).toString();
    }

    private static void everyCallHasAnExample(List<String> lines) {
        for (Method method : MappingMoves.class.getDeclaredMethods()) {
            if (Modifier.isPublic(method.getModifiers())) {
                String start = "x." + method.getName() + "(";
                Due.holds("README.md: an example of " + method.getName(), lines.stream().anyMatch(line -> line.startsWith(start)));
            }
        }
    }

    private static void everyAnswerIsTold(List<String> lines) throws IllegalAccessException {
        for (Field answer : MappingMoves.class.getFields()) {
            String start = "| `" + answer.getName() + "` | " + answer.getInt(null) + " |";
            Due.holds("README.md: " + start, lines.stream().anyMatch(line -> line.startsWith(start)));
        }
    }

    private static void everyTestIsTold(List<String> lines) throws IOException {
        try (Stream<Path> files = Files.list(Path.of("src/test/java"))) {
            for (Path file : files.toList()) {
                String name = "`" + file.getFileName().toString().replace(".java", "") + "`";
                Due.holds("README.md: " + name, lines.stream().anyMatch(line -> line.contains(name)));
            }
        }
    }
}
