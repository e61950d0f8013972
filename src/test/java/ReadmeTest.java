import java.io.IOException;
import java.lang.reflect.Method;
import java.nio.file.Files;
import java.nio.file.Path;
import java.util.regex.Matcher;
import java.util.regex.Pattern;

/** What README.md shows: each call answers what stands behind it, and no method is left out. */
public final class ReadmeTest {
    private static final Pattern CALL =
            Pattern.compile("^x\\.(\\w+)\\((.*)\\);\\s*// (-?\\d+)\\b.*$");

    public static void main(String[] args) throws IOException, ReflectiveOperationException {
        String readme = Files.readString(Path.of("README.md"));
        InvariantLearner x = null;
        boolean isShown = false;
        for (String line : readme.split("\n")) {
            if (line.startsWith("```")) {
                isShown = line.equals("```java");
            } else if (isShown && line.endsWith("new InvariantLearner();")) {
                x = new InvariantLearner();
            } else if (isShown) {
                ask(x, line);
            }
        }
        for (Method method : InvariantLearner.class.getMethods()) {
            if (method.getDeclaringClass() == InvariantLearner.class) {
                Due.is("README.md names " + method.getName(),
                        readme.contains("`" + method.getName() + "`") ? 1 : 0, 1);
            }
        }
        Due.end();
    }

    private static void ask(InvariantLearner x, String line) throws ReflectiveOperationException {
        Matcher call = CALL.matcher(line);
        boolean isCall = call.matches();
        Due.is("a call and its answer: " + line, isCall ? 1 : 0, 1);
        if (isCall) {
            Due.is(line, answer(x, call.group(1), call.group(2)), Long.parseLong(call.group(3)));
        }
    }

    private static int answer(InvariantLearner x, String name, String written)
            throws ReflectiveOperationException {
        String[] parts = written.isEmpty() ? new String[0] : written.split(", ");
        Object[] values = new Object[parts.length];
        for (int i = 0; i < parts.length; i++) {
            values[i] = parts[i].matches("true|false") ? (Object) Boolean.valueOf(parts[i])
                    : (Object) Integer.decode(parts[i]);
        }
        for (Method method : InvariantLearner.class.getMethods()) {
            if (method.getName().equals(name) && method.getParameterCount() == parts.length) {
                return (int) method.invoke(x, values);
            }
        }
        throw new NoSuchMethodException(name);
    }
}
