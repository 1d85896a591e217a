import java.io.IOException;
import java.lang.reflect.Field;
import java.lang.reflect.Method;
import java.lang.reflect.Modifier;
import java.nio.file.Files;
import java.nio.file.Path;
import java.util.Arrays;
import java.util.List;
import java.util.Set;
import java.util.TreeSet;
import java.util.regex.Matcher;
import java.util.regex.Pattern;

/** The document's public face, and those rules of LANGUAGE.md that can be seen from outside or word by word. */
public final class LanguageTest {
    private static final List<String> FACE = List.of(
        "boolean type(long)", "int word(int,int,int,int)", "boolean rule(int,int,int,int)",
        "boolean link(int,int,int)", "boolean mode(int,int)", "boolean chain(int,int)", "int cost()",
        "long paths()", "int nodes()", "int tokens()", "int token(int,int)", "long term(int)", "int add()",
        "boolean drop(int)", "int flush()", "int segment(int)", "int open()", "int match(int)",
        "int places(int)");
    private static final String FORBIDDEN = "\\b(throw|throws|try|catch|finally|synchronized|assert|package|"
        + "instanceof|Thread|Random|Exception|Error|System|Object|var|double|float|hashCode|toString)\\b"
        + "|->|::|Exact\\b|static \\{|@";

    public static void main(String[] args) throws IOException {
        Checks checks = new Checks();
        hasTheFace(checks);
        hidesTheRest(checks);
        hasPlainClassesInside(checks);
        keepsToTheWords(checks);
        checks.finish();
    }

    private static String shown(Method method) {
        StringBuilder text = new StringBuilder(method.getReturnType().getName());
        text.append(' ').append(method.getName()).append('(');
        for (Class<?> parameter : method.getParameterTypes()) {
            text.append(text.charAt(text.length() - 1) == '(' ? "" : ",").append(parameter.getName());
        }
        return text.append(')').toString();
    }

    private static void hasTheFace(Checks checks) {
        Set<String> shown = new TreeSet<>();
        for (Method method : MorphIndex.class.getDeclaredMethods()) {
            if (!Modifier.isPrivate(method.getModifiers())) {
                boolean plain = method.getModifiers() == Modifier.PUBLIC;
                shown.add(plain ? shown(method) : "not plainly public: " + shown(method));
            }
        }
        checks.due("the methods of the face " + shown, shown.equals(new TreeSet<>(FACE)), true);
        checks.due("the class", MorphIndex.class.getModifiers(), Modifier.PUBLIC | Modifier.FINAL);
        checks.due("constructors", MorphIndex.class.getDeclaredConstructors().length, 1);
        checks.due("public constructors", MorphIndex.class.getConstructors().length, 1);
    }

    private static void hidesTheRest(Checks checks) {
        for (Field field : MorphIndex.class.getDeclaredFields()) {
            boolean face = field.getName().equals("NONE") && field.getModifiers()
                == (Modifier.PUBLIC | Modifier.STATIC | Modifier.FINAL);
            checks.due("field " + field.getName(), face || Modifier.isPrivate(field.getModifiers()), true);
        }
        Set<String> names = new TreeSet<>();
        FACE.forEach(method -> names.add(method.replaceAll(".* |\\(.*", "")));
        for (Method method : MorphIndex.class.getDeclaredMethods()) {
            boolean twice = Modifier.isPrivate(method.getModifiers()) && names.contains(method.getName());
            checks.due("private " + method.getName() + " bears a public name", twice, false);
        }
    }

    private static void hasPlainClassesInside(Checks checks) {
        Class<?>[] inside = MorphIndex.class.getDeclaredClasses();
        checks.due("at most twelve classes", inside.length + 1 <= 12, true);
        for (Class<?> c : inside) {
            checks.due(c.getName() + " is static", Modifier.isStatic(c.getModifiers()), true);
            checks.due(c.getName() + " is hidden", Modifier.isPublic(c.getModifiers()), false);
            long fields = Arrays.stream(c.getDeclaredFields())
                .filter(f -> !Modifier.isStatic(f.getModifiers())).count();
            checks.due(c.getName() + " has at most twenty fields", fields <= 20, true);
            for (Field field : c.getDeclaredFields()) {
                int modifiers = field.getModifiers();
                checks.due(c.getName() + "." + field.getName() + " is no static state",
                    Modifier.isStatic(modifiers) && !Modifier.isFinal(modifiers), false);
            }
            for (Method method : c.getDeclaredMethods()) {
                checks.due(method.getName() + " has at most seven parameters", method.getParameterCount() <= 7, true);
            }
        }
    }

    private static void keepsToTheWords(Checks checks) throws IOException {
        String source = Files.readString(Path.of("src/main/java/MorphIndex.java"));
        String code = source.replaceAll("(?s)/\\*.*?\\*/", "").replaceAll("//[^\n]*", "");
        Matcher matcher = Pattern.compile(FORBIDDEN).matcher(code);
        while (matcher.find()) {
            checks.due("'" + matcher.group() + "' is in the program", true, false);
        }
        checks.due("the program is ASCII", source.chars().allMatch(c -> c < 128), true);
    }
}
