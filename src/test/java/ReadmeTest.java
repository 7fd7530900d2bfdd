import java.io.IOException;
import java.lang.reflect.Method;
import java.nio.file.Files;
import java.nio.file.Path;
import java.util.regex.Matcher;
import java.util.regex.Pattern;

/** The calls that README.md shows, each with the answer that stands behind it. */
public final class ReadmeTest extends Checks {
    private static final Pattern LOAD = Pattern.compile("load\\(desk, \"([^\"]*)\"\\); *// (\\d+):.*");
    private static final Pattern CALL = Pattern.compile("desk\\.(\\w+)\\(([-0-9, ]*)\\); *// (-|-?\\d+|true|false):.*");
    private static final int CALLS_LEAST = 20;

    public static void main(String[] args) throws IOException, ReflectiveOperationException {
        about("README.md");
        RecordDesk desk = new RecordDesk();
        int calls = 0;
        for (String line : Files.readAllLines(Path.of("README.md"))) {
            Matcher load = LOAD.matcher(line);
            Matcher call = CALL.matcher(line);
            if (load.matches()) {
                same(line, String.valueOf(told(desk, load.group(1))), load.group(2));
            } else if (call.matches()) {
                same(line, answerOf(desk, call.group(1), call.group(2)), call.group(3));
                calls++;
            } else if (line.startsWith("desk.") || line.startsWith("load(")) {
                same("a call in README.md", line, "one with its answer behind it");
            }
        }
        if (calls < CALLS_LEAST) same("calls in README.md", String.valueOf(calls), CALLS_LEAST + " or more");
        finish("README.md tells what is so");
    }

    private static String answerOf(RecordDesk desk, String name, String row) throws ReflectiveOperationException {
        String[] parts = row.isBlank() ? new String[0] : row.split(",");
        Class<?>[] types = new Class<?>[parts.length];
        Object[] numbers = new Object[parts.length];
        for (int i = 0; i < parts.length; i++) {
            types[i] = int.class;
            numbers[i] = Integer.parseInt(parts[i].trim());
        }
        Method method = RecordDesk.class.getMethod(name, types);
        Object answer = method.invoke(desk, numbers);
        return answer == null ? "-" : answer.toString();
    }
}
