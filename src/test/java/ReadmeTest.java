import java.io.IOException;
import java.lang.reflect.InvocationTargetException;
import java.lang.reflect.Method;
import java.nio.file.Files;
import java.nio.file.Path;
import java.util.regex.Matcher;
import java.util.regex.Pattern;

/** The calls that stand in README.md, one behind the other on one object, each with the answer that stands behind it. */
public final class ReadmeTest extends Answers {
    private static final Pattern CALL = Pattern.compile("x\\.(\\w+)\\((.*)\\); +// (-?\\d+)\\b.*");
    private static final int LEAST_CALLS = 30;

    public static void main(String[] args) throws IOException, ReflectiveOperationException {
        CrossSums x = null;
        int calls = 0;
        boolean isCode = false;
        for (String line : Files.readAllLines(Path.of("README.md"))) {
            if (line.startsWith("```")) {
                isCode = line.equals("```java");
            } else if (isCode && line.equals("CrossSums x = new CrossSums();")) {
                x = new CrossSums();
            } else if (isCode) {
                due(line + " is a call with its answer", x != null && CALL.matcher(line).matches() ? 1 : 0, 1);
                calls += x == null ? 0 : call(x, line);
            }
        }
        test("README.md says how to use the class", () -> { });
        due("enough calls", calls >= LEAST_CALLS ? 1 : 0, 1);
        end();
    }

    private static int call(CrossSums x, String line) throws ReflectiveOperationException {
        Matcher call = CALL.matcher(line);
        if (!call.matches()) {
            return 0;
        }
        for (Method method : CrossSums.class.getMethods()) {
            if (method.getName().equals(call.group(1)) && method.getDeclaringClass() == CrossSums.class) {
                due(line, answer(x, method, call.group(2)), Long.parseLong(call.group(3)));
                return 1;
            }
        }
        due(line + " names a method", 0, 1);
        return 0;
    }

    private static long answer(CrossSums x, Method method, String told)
            throws IllegalAccessException, InvocationTargetException {
        String[] words = told.isEmpty() ? new String[0] : told.split(", *");
        Object[] values = new Object[words.length];
        for (int i = 0; i < words.length; i++) {
            values[i] = words[i].equals("true") || words[i].equals("false")
                    ? (Object) Boolean.valueOf(words[i]) : (Object) Integer.decode(words[i]);
        }
        return ((Number) method.invoke(x, values)).longValue();
    }
}
