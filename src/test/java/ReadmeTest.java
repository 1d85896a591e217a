import java.io.IOException;
import java.lang.reflect.Method;
import java.nio.file.Files;
import java.nio.file.Path;
import java.util.Set;
import java.util.TreeSet;
import java.util.regex.Matcher;
import java.util.regex.Pattern;

/** Makes the calls of the examples in README.md: each answers what stands behind it there. */
public final class ReadmeTest {
    private static final String NEW_OBJECT = "MorphIndex x = new MorphIndex();";
    private static final Pattern CALL = Pattern.compile("x\\.(\\w+)\\(([^)]*)\\); +// (\\w+|-\\d+)(:.*)?");

    private final Checks checks = new Checks();
    private final Set<String> shown = new TreeSet<>();
    private MorphIndex x;

    public static void main(String[] args) throws IOException, ReflectiveOperationException {
        ReadmeTest test = new ReadmeTest();
        String readme = Files.readString(Path.of("README.md"));
        test.makeCalls(readme);
        test.namesEveryCall(readme);
        test.checks.finish();
    }

    private void makeCalls(String readme) throws ReflectiveOperationException {
        boolean inExample = false;
        for (String line : readme.split("\n")) {
            if (line.startsWith("```")) {
                inExample = line.equals("```java");
            } else if (inExample && line.equals(NEW_OBJECT)) {
                x = new MorphIndex();
            } else if (inExample) {
                makeCall(line);
            }
        }
        for (String name : Set.of("type", "word", "cost", "term", "add", "flush", "open", "match", "places")) {
            checks.due("an example shows " + name, shown.contains(name), true);
        }
    }

    private void makeCall(String line) throws ReflectiveOperationException {
        Matcher call = CALL.matcher(line);
        checks.due("read as a call: " + line, call.matches(), true);
        if (!call.matches()) {
            return;
        }
        Method method = named(call.group(1));
        shown.add(method.getName());
        Object answer = method.invoke(x, arguments(method, call.group(2)));
        String due = call.group(3);
        if (answer instanceof Boolean taken) {
            checks.due(line, taken, due.equals("true"));
            checks.due("says true or false: " + line, due.matches("true|false"), true);
        } else {
            checks.due(line, ((Number) answer).longValue(), Long.decode(due));
        }
    }

    private static Method named(String name) throws NoSuchMethodException {
        for (Method method : MorphIndex.class.getMethods()) {
            if (method.getDeclaringClass() == MorphIndex.class && method.getName().equals(name)) {
                return method;
            }
        }
        throw new NoSuchMethodException(name);
    }

    private static Object[] arguments(Method method, String text) {
        Class<?>[] types = method.getParameterTypes();
        String[] words = text.isEmpty() ? new String[0] : text.split(", ");
        Object[] arguments = new Object[words.length];
        for (int i = 0; i < words.length; i++) {
            String word = words[i].replace("L", "");
            arguments[i] = types[i] == long.class ? (Object) Long.decode(word) : (Object) Integer.decode(word);
        }
        return arguments;
    }

    private void namesEveryCall(String readme) {
        for (Method method : MorphIndex.class.getMethods()) {
            if (method.getDeclaringClass() == MorphIndex.class) {
                checks.due("README.md names " + method.getName(), readme.contains("`" + method.getName() + "("), true);
            }
        }
    }
}
