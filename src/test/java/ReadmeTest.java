import java.io.IOException;
import java.lang.reflect.Method;
import java.nio.file.Files;
import java.nio.file.Path;
import java.util.HashMap;
import java.util.Map;
import java.util.Set;
import java.util.TreeSet;
import java.util.regex.Matcher;
import java.util.regex.Pattern;

/** The example of README.md: each of its calls answers what stands behind it, and no call of the face is left out. */
public final class ReadmeTest {
    private static final Check CHECK = new Check();
    private static final Pattern EXAMPLE = Pattern.compile("(?s)```java\n(.*?)```");
    private static final Pattern LINE =
        Pattern.compile("(?:int (\\w+) = )?x\\.(\\w+)\\(([^)]*)\\);\\s*// (-?\\w+)(?::.*)?");
    private static final String NEW = "SchemaTables x = new SchemaTables();";

    private final SchemaTables x = new SchemaTables();
    private final Map<String, Long> names = new HashMap<>(Map.of("NONE", -1L, "FAULT", -2L, "FULL", -3L, "DOWN", -4L,
        "true", 1L, "false", 0L));
    private final Set<String> left = new TreeSet<>();

    public static void main(String[] args) throws IOException, ReflectiveOperationException {
        CHECK.begin("README.md");
        Matcher example = EXAMPLE.matcher(Files.readString(Path.of("README.md")));
        CHECK.due("it has an example", example.find(), true);
        new ReadmeTest().run(example.group(1).split("\n"));
        CHECK.end();
    }

    private void run(String[] lines) throws ReflectiveOperationException {
        for (Method m : SchemaTables.class.getMethods()) {
            if (m.getDeclaringClass() == SchemaTables.class) {
                left.add(m.getName());
            }
        }
        CHECK.due("its first line makes the object", lines[0].equals(NEW), true);
        for (int i = 1; i < lines.length; i++) {
            if (!lines[i].isBlank()) {
                runLine(lines[i]);
            }
        }
        CHECK.due("the calls that it does not show: " + left, left.size(), 0);
    }

    private void runLine(String line) throws ReflectiveOperationException {
        Matcher parts = LINE.matcher(line);
        boolean isCall = parts.matches();
        CHECK.due("a call with its answer: " + line, isCall, true);
        if (isCall) {
            long answer = call(parts.group(2), parts.group(3).isEmpty() ? new String[0] : parts.group(3).split(", "));
            CHECK.due(line, answer, valueOf(parts.group(4)));
            if (parts.group(1) != null) {
                names.put(parts.group(1), answer);
            }
        }
    }

    private long call(String name, String[] arguments) throws ReflectiveOperationException {
        for (Method m : SchemaTables.class.getMethods()) {
            if (m.getName().equals(name) && m.getParameterCount() == arguments.length) {
                left.remove(name);
                Object[] values = new Object[arguments.length];
                for (int i = 0; i < values.length; i++) {
                    values[i] = as(m.getParameterTypes()[i], valueOf(arguments[i]));
                }
                Object answer = m.invoke(x, values);
                return answer instanceof Boolean truth ? truth ? 1 : 0 : ((Number) answer).longValue();
            }
        }
        CHECK.due("there is a call " + name, false, true);
        return 0;
    }

    private static Object as(Class<?> type, long value) {
        if (type == boolean.class) {
            return value == 1;
        }
        return type == int.class ? (Object) (int) value : (Object) value;
    }

    private long valueOf(String text) {
        return names.containsKey(text) ? names.get(text) : Long.parseLong(text);
    }
}
