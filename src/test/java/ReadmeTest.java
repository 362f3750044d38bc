import java.io.File;
import java.io.IOException;
import java.lang.reflect.Field;
import java.lang.reflect.InvocationTargetException;
import java.lang.reflect.Method;
import java.lang.reflect.Modifier;
import java.nio.file.Files;
import java.util.List;
import java.util.regex.Matcher;
import java.util.regex.Pattern;

/** README.md as the project stands: its calls answer what it says. Its argument: the folder of the project. */
public final class ReadmeTest {
    private static final Checks CHECKS = new Checks("ReadmeTest");
    private static final String NEW = "WishPlaces x = new WishPlaces();";
    private static final Pattern CALL = Pattern.compile("x\\.(\\w+)\\(([^)]*)\\); +// (-?\\d+)(:.*)?");
    private static final int LEAST_CALLS = 20;

    private static WishPlaces x;
    private static int called = 0;

    private ReadmeTest() {
    }

    public static void main(String[] args) throws IOException, ReflectiveOperationException {
        File folder = new File(args[0]);
        List<String> lines = Files.readAllLines(new File(folder, "README.md").toPath());
        calls(lines);
        String text = String.join("\n", lines);
        face(text);
        tests(text, new File(folder, "src/test/java"));
        paths(text, folder);
        CHECKS.end();
    }

    // ---- the calls between ```java and ```

    private static void calls(List<String> lines) throws ReflectiveOperationException {
        boolean inJava = false;
        for (String line : lines) {
            if (line.startsWith("```")) {
                inJava = line.equals("```java");
            } else if (inJava) {
                step(line);
            }
        }
        CHECKS.holds("README.md has calls, " + called, called >= LEAST_CALLS);
    }

    private static void step(String line) throws ReflectiveOperationException {
        if (line.equals(NEW)) {
            x = new WishPlaces();
            return;
        }
        Matcher call = CALL.matcher(line);
        boolean isCall = call.matches() && x != null;
        CHECKS.holds("a call and its answer: " + line, isCall);
        if (isCall) {
            called++;
            CHECKS.due(line, answer(call.group(1), call.group(2)), Long.parseLong(call.group(3)));
        }
    }

    private static long answer(String name, String told) throws ReflectiveOperationException {
        String[] words = told.isEmpty() ? new String[0] : told.split(", ");
        for (Method m : WishPlaces.class.getMethods()) {
            if (m.getName().equals(name) && m.getParameterCount() == words.length) {
                return ((Number) invoke(m, words)).longValue();
            }
        }
        throw new NoSuchMethodException(name + " with " + words.length);
    }

    private static Object invoke(Method m, String[] words) throws ReflectiveOperationException {
        Object[] args = new Object[words.length];
        for (int i = 0; i < words.length; i++) {
            int value = words[i].equals("NONE") ? WishPlaces.NONE : Integer.decode(words[i]);
            args[i] = value;
            if (m.getParameterTypes()[i] == long.class) {
                args[i] = (long) value;
            }
        }
        try {
            return m.invoke(x, args);
        } catch (InvocationTargetException e) {
            throw new IllegalStateException(m.getName() + " threw", e.getCause());
        }
    }

    // ---- what it names

    private static void face(String text) {
        for (Method m : WishPlaces.class.getDeclaredMethods()) {
            if (Modifier.isPublic(m.getModifiers())) {
                CHECKS.holds("README.md tells of " + m.getName(), text.contains("`" + m.getName() + "("));
            }
        }
        for (Field f : WishPlaces.class.getFields()) {
            CHECKS.holds("README.md tells of " + f.getName(), text.contains("`" + f.getName() + "`"));
        }
    }

    private static void tests(String text, File folder) {
        for (String file : folder.list()) {
            String name = file.replace(".java", "");
            CHECKS.holds("README.md tells of " + name, text.contains("`" + name + "`"));
        }
        Matcher named = Pattern.compile("`(\\w+Test)`").matcher(text);
        while (named.find()) {
            CHECKS.holds("there is a " + named.group(1), new File(folder, named.group(1) + ".java").isFile());
        }
    }

    private static void paths(String text, File folder) {
        for (String path : new String[] {"src/main/java/WishPlaces.java", ".ci/run", "NOTES.md"}) {
            CHECKS.holds("README.md tells of " + path, text.contains(path));
            CHECKS.holds("there is " + path, new File(folder, path).isFile());
        }
        CHECKS.holds(".ci/run can be run", new File(folder, ".ci/run").canExecute());
    }
}
