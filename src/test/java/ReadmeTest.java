import java.io.IOException;
import java.lang.reflect.Method;
import java.nio.file.Files;
import java.nio.file.Path;
import java.util.regex.Matcher;
import java.util.regex.Pattern;

/** Every call in README.md whose answer stands behind it answers so, block by block, each on a new object. */
public final class ReadmeTest {
    private static final Pattern CALL = Pattern.compile("x\\.(\\w+)\\(([^)\"]*)\\); *// (-?\\d+)\\b.*");
    private static final Pattern TELL = Pattern.compile("tell\\(x, \"([^\"]*)\"\\); *// (-?\\d+)\\b.*");

    private ReadmeTest() {
    }

    public static void main(String[] args) throws IOException, ReflectiveOperationException {
        LastMark x = null;
        int blocks = 0;
        for (String line : Files.readAllLines(Path.of("README.md"))) {
            if (line.equals("LastMark x = new LastMark();")) {
                x = new LastMark();
                blocks++;
            } else if (line.startsWith("```")) {
                x = null;
            } else if (x != null) {
                hold(x, line);
            }
        }
        Checks.dueTrue("there are examples", blocks > 0);
        Checks.finish();
    }

    private static void hold(LastMark x, String line) throws ReflectiveOperationException {
        Matcher tell = TELL.matcher(line);
        Matcher call = CALL.matcher(line);
        if (tell.matches()) {
            Checks.due("README: " + line, Checks.tell(x, tell.group(1)), Long.parseLong(tell.group(2)));
        } else if (call.matches()) {
            Checks.due("README: " + line, answer(x, call.group(1), call.group(2)), Long.parseLong(call.group(3)));
        } else {
            Checks.dueTrue("README: a call and its answer: " + line, line.isEmpty());
        }
    }

    private static long answer(LastMark x, String name, String told) throws ReflectiveOperationException {
        String[] numbers = told.isEmpty() ? new String[0] : told.split(", *");
        for (Method method : LastMark.class.getMethods()) {
            Class<?>[] types = method.getParameterTypes();
            if (method.getName().equals(name) && types.length == numbers.length) {
                Object[] values = new Object[numbers.length];
                for (int i = 0; i < values.length; i++) {
                    long value = Long.decode(numbers[i]);
                    values[i] = types[i] == long.class ? (Object) value : (Object) (int) value;
                }
                return ((Number) method.invoke(x, values)).longValue();
            }
        }
        throw new IllegalArgumentException("there is no such call: " + name);
    }
}
