import java.io.IOException;
import java.lang.reflect.Field;
import java.lang.reflect.Method;
import java.nio.file.Files;
import java.nio.file.Path;
import java.util.Set;
import java.util.TreeSet;
import java.util.regex.Matcher;
import java.util.regex.Pattern;

/** That the calls in README.md's example answer what is said beside them, and that no method goes unnamed. */
public final class ReadmeTest {
    private static final Pattern EXAMPLE = Pattern.compile("(?s)```java\\R(.*?)```");
    private static final Pattern CALL = Pattern.compile("unit\\.(\\w+)\\((.*?)\\); +// ([-\\w]+): .+");
    private static final String MAKING = "WatchpointUnit unit = new WatchpointUnit();";
    private static final Due due = new Due();

    public static void main(String[] args) throws IOException, ReflectiveOperationException {
        String readme = Files.readString(Path.of("README.md"));
        Matcher example = EXAMPLE.matcher(readme);
        due.isTrue("there is an example", example.find());
        makeCalls(example.group(1));
        everyMethodIsNamed(readme);
        due.end();
    }

    private static void makeCalls(String example) throws ReflectiveOperationException {
        WatchpointUnit unit = new WatchpointUnit();
        for (String line : example.lines().toList()) {
            Matcher call = CALL.matcher(line);
            if (call.matches()) {
                due.is(line, answer(unit, call.group(1), call.group(2)), number(call.group(3)));
            } else {
                due.isTrue("nothing but calls with their answers: " + line,
                        line.isBlank() || line.equals(MAKING));
            }
        }
    }

    private static int answer(WatchpointUnit unit, String name, String list)
            throws ReflectiveOperationException {
        String[] words = list.isEmpty() ? new String[0] : list.split(", ");
        Class<?>[] types = new Class<?>[words.length];
        Object[] arguments = new Object[words.length];
        for (int i = 0; i < words.length; i++) {
            types[i] = int.class;
            arguments[i] = number(words[i]);
        }
        Method method = WatchpointUnit.class.getMethod(name, types);
        return (int) method.invoke(unit, arguments);
    }

    private static int number(String word) throws ReflectiveOperationException {
        if (word.startsWith("WatchpointUnit.")) {
            Field constant = WatchpointUnit.class.getField(word.substring("WatchpointUnit.".length()));
            return constant.getInt(null);
        }
        return Integer.decode(word);
    }

    private static void everyMethodIsNamed(String readme) {
        Set<String> unnamed = new TreeSet<>();
        for (Method method : WatchpointUnit.class.getMethods()) {
            if (method.getDeclaringClass() == WatchpointUnit.class && !readme.contains("`" + method.getName() + "(")) {
                unnamed.add(method.getName());
            }
        }
        due.isTrue("README.md names every method, but for " + unnamed, unnamed.isEmpty());
    }
}
