import java.io.IOException;
import java.lang.reflect.Method;
import java.nio.file.Files;
import java.nio.file.Path;
import java.util.ArrayList;
import java.util.List;
import java.util.Set;
import java.util.TreeSet;
import java.util.regex.Matcher;
import java.util.regex.Pattern;

/** Each call that README.md shows answers the number that stands behind it there. */
public final class ReadmeTest {
    private static final Pattern CALL = Pattern.compile("x\\.(\\w+)\\(([^)]*)\\); +// (-?\\d+): .+");
    private static final String NEW = "TokenNets x = new TokenNets();";

    private final Due due = new Due("README.md");
    private final Set<String> called = new TreeSet<>();
    private TokenNets x = new TokenNets();

    /** The lines of all Java examples. */
    private static List<String> shown(List<String> page) {
        List<String> lines = new ArrayList<>();
        boolean inside = false;
        for (String line : page) {
            if (line.startsWith("```")) {
                inside = line.equals("```java");
            } else if (inside && !line.isBlank()) {
                lines.add(line);
            }
        }
        return lines;
    }

    private static Method named(String name) {
        for (Method method : TokenNets.class.getMethods()) {
            if (method.getName().equals(name)) {
                return method;
            }
        }
        throw new IllegalArgumentException("README.md calls " + name + ", which there is not");
    }

    private static long number(String shown) {
        return Long.decode(shown.endsWith("L") ? shown.substring(0, shown.length() - 1) : shown);
    }

    private long call(String name, String arguments) throws ReflectiveOperationException {
        Method method = named(name);
        String[] texts = arguments.isEmpty() ? new String[0] : arguments.split(", ");
        Object[] values = new Object[texts.length];
        for (int i = 0; i < texts.length; i++) {
            values[i] = method.getParameterTypes()[i] == int.class ? (Object) (int) number(texts[i]) : (Object) number(texts[i]);
        }
        called.add(name);
        return ((Number) method.invoke(x, values)).longValue();
    }

    private void follow(String line) throws ReflectiveOperationException {
        if (line.equals(NEW)) {
            x = new TokenNets();
            return;
        }
        Matcher shown = CALL.matcher(line);
        if (!shown.matches()) {
            throw new IllegalArgumentException("README.md shows what is no call with an answer: " + line);
        }
        due.is(line, call(shown.group(1), shown.group(2)), Long.parseLong(shown.group(3)));
    }

    public static void main(String[] args) throws IOException, ReflectiveOperationException {
        ReadmeTest test = new ReadmeTest();
        for (String line : shown(Files.readAllLines(Path.of("README.md")))) {
            test.follow(line);
        }
        test.due.is("methods that it shows " + test.called, test.called.size() > 20 ? 1 : 0, 1);
        Due.end();
    }
}
