import java.io.IOException;
import java.lang.reflect.InvocationTargetException;
import java.lang.reflect.Method;
import java.lang.reflect.Modifier;
import java.nio.file.Files;
import java.nio.file.Path;
import java.util.List;
import java.util.regex.Matcher;
import java.util.regex.Pattern;

/**
 * README.md is read and its example is run: every call answers what stands behind its arrow, and
 * every call of the face is in the example and in the table.
 */
public final class ReadmeTest {
    private static final Pattern MADE = Pattern.compile(
            "StemShapes stem = new StemShapes\\((-?\\d+), (-?\\d+)\\);.*");
    private static final Pattern CALL = Pattern.compile(
            "stem\\.(\\w+)\\(([^)]*)\\);(?: *//.*?(?:-> (.+))?)?");
    private static final Due DUE = new Due();

    public static void main(String[] args) throws IOException, ReflectiveOperationException {
        String readme = Files.readString(Path.of("README.md"));
        String example = example(readme);
        runAll(example.lines().toList());
        everyCallIsNamed(readme, example);
        DUE.end();
    }

    private static String example(String readme) {
        String from = "```java\n";
        int start = readme.indexOf(from) + from.length();
        return readme.substring(start, readme.indexOf("```", start));
    }

    private static void runAll(List<String> lines) throws ReflectiveOperationException {
        StemShapes stem = null;
        for (String line : lines) {
            Matcher made = MADE.matcher(line);
            Matcher call = CALL.matcher(line);
            if (made.matches()) {
                stem = new StemShapes(
                        Integer.parseInt(made.group(1)), Integer.parseInt(made.group(2)));
            } else if (call.matches() && stem != null) {
                runOne(stem, line, call);
            } else if (!line.isBlank()) {
                DUE.complain(line, "no call that this test can read", "one");
            }
        }
    }

    private static void runOne(StemShapes stem, String line, Matcher call)
            throws ReflectiveOperationException {
        String got = answer(stem, named(call.group(1)), call.group(2));
        // A call without an arrow must be one that answers nothing.
        String want = call.group(3) == null ? "null" : call.group(3);
        if (!got.equals(want)) {
            DUE.complain("README.md: " + line, got, want);
        }
    }

    private static String answer(StemShapes stem, Method method, String written)
            throws ReflectiveOperationException {
        try {
            return String.valueOf(method.invoke(stem, values(method, written)));
        } catch (InvocationTargetException thrown) {
            return "throws " + thrown.getCause().getClass().getSimpleName();
        }
    }

    private static Method named(String name) throws NoSuchMethodException {
        for (Method method : StemShapes.class.getDeclaredMethods()) {
            if (Modifier.isPublic(method.getModifiers()) && method.getName().equals(name)) {
                return method;
            }
        }
        throw new NoSuchMethodException(name);
    }

    private static Object[] values(Method method, String written) {
        Class<?>[] types = method.getParameterTypes();
        String[] texts = written.isEmpty() ? new String[0] : written.split(", ");
        Object[] values = new Object[texts.length];
        for (int i = 0; i < texts.length; i++) {
            if (types[i] == int.class) {
                values[i] = Integer.valueOf(texts[i]);
            } else if (types[i] == long.class) {
                values[i] = Long.valueOf(texts[i]);
            } else {
                values[i] = Double.valueOf(texts[i]);
            }
        }
        return values;
    }

    private static void everyCallIsNamed(String readme, String example) {
        for (Method method : StemShapes.class.getDeclaredMethods()) {
            if (Modifier.isPublic(method.getModifiers())) {
                String name = method.getName();
                DUE.answer("the example has " + name, example.contains("stem." + name + "("), true);
                DUE.answer("the table has " + name, readme.contains("`" + name + "("), true);
            }
        }
    }
}
