import java.io.IOException;
import java.lang.reflect.InvocationTargetException;
import java.lang.reflect.Method;
import java.nio.file.Files;
import java.nio.file.Path;
import java.util.List;
import java.util.Set;
import java.util.TreeSet;
import java.util.regex.Matcher;
import java.util.regex.Pattern;

/** The examples of README.md hold, and each method of the face has one; run in the project's folder. */
public final class ReadmeTest {
    private static final String NEW_OBJECT = "Modrings x = new Modrings();";
    /** A call, and behind it an answer: a text, an exception, or a number or boolean, then ": " and more. */
    private static final Pattern EXAMPLE =
            Pattern.compile("x\\.(\\w+)\\((.*?)\\); +// (\"[^\"]*\"|throws \\w+|-?\\w+)(: .*)?");

    private static Method methodOf(String name) {
        for (Method method : Modrings.class.getMethods()) {
            if (method.getDeclaringClass() == Modrings.class && method.getName().equals(name)) {
                return method;
            }
        }
        throw new IllegalStateException("the class has no " + name);
    }

    private static Object[] arguments(Method method, String list) {
        String[] words = list.isEmpty() ? new String[0] : list.split(", ");
        Object[] values = new Object[words.length];
        for (int i = 0; i < words.length; i++) {
            boolean isInt = method.getParameterTypes()[i] == int.class;
            values[i] = isInt ? (Object) Integer.valueOf(words[i]) : Boolean.valueOf(words[i]);
        }
        return values;
    }

    private static String answerOf(Modrings x, Method method, Object[] values) throws IllegalAccessException {
        try {
            Object answer = method.invoke(x, values);
            return answer instanceof String ? "\"" + answer + "\"" : String.valueOf(answer);
        } catch (InvocationTargetException e) {
            return "throws " + e.getCause().getClass().getSimpleName();
        }
    }

    public static void main(String[] args) throws IOException, IllegalAccessException {
        List<String> lines = Files.readAllLines(Path.of("README.md"));
        Set<String> shown = new TreeSet<>();
        Modrings x = null;
        for (String line : lines) {
            if (line.equals(NEW_OBJECT)) {
                x = new Modrings();
            }
            if (!line.startsWith("x.")) {
                continue;
            }
            Matcher example = EXAMPLE.matcher(line);
            Check.same(line + " has the form of an example", example.matches(), true);
            Method method = methodOf(example.group(1));
            Check.same(line, answerOf(x, method, arguments(method, example.group(2))), example.group(3));
            shown.add(example.group(1));
        }
        for (Method method : Modrings.class.getMethods()) {
            if (method.getDeclaringClass() == Modrings.class) {
                Check.same(method.getName() + " has an example", shown.contains(method.getName()), true);
            }
        }
        Check.finish("ReadmeTest");
    }
}
