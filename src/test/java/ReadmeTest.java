import java.io.File;
import java.io.IOException;
import java.lang.reflect.Method;
import java.lang.reflect.Modifier;
import java.nio.file.Files;
import java.nio.file.Path;
import java.util.HashMap;
import java.util.Map;
import java.util.regex.Matcher;
import java.util.regex.Pattern;

/** README.md is right: its example answers what its comments say, and it names every call and every test. */
public final class ReadmeTest {
    private static final Pattern EXAMPLE = Pattern.compile("(?s)```java\n(.*?)```");
    private static final Pattern CALL =
            Pattern.compile("(?:int (\\w+) = )?ball\\.(\\w+)\\(([^)]*)\\); +// (-?\\d+)(?:: .*)?");
    private static final String FIRST_LINE = "DanceCards ball = new DanceCards();";

    private final DanceCards ball = new DanceCards();
    private final Map<String, Integer> names = new HashMap<>(Map.of("DanceCards.NONE", DanceCards.NONE));

    private static Method method(String name) {
        for (Method m : DanceCards.class.getDeclaredMethods()) {
            if (Modifier.isPublic(m.getModifiers()) && m.getName().equals(name)) return m;
        }
        throw new IllegalStateException("README.md tells of a call that there is not: " + name);
    }

    private Object value(String text, Class<?> type) {
        if (type == boolean.class) return text.equals("true");
        if (type == long.class) return Long.decode(text.replace("L", ""));
        return names.containsKey(text) ? names.get(text) : Integer.valueOf(text);
    }

    private void runLine(String line) throws ReflectiveOperationException {
        Matcher m = CALL.matcher(line);
        if (!m.matches()) throw new IllegalStateException("README.md has a line that can not be run: " + line);
        Method called = method(m.group(2));
        Class<?>[] types = called.getParameterTypes();
        String[] texts = m.group(3).isEmpty() ? new String[0] : m.group(3).split(", ");
        Object[] given = new Object[types.length];
        for (int i = 0; i < types.length; i++) given[i] = value(texts[i], types[i]);
        int answer = (Integer) called.invoke(ball, given);
        Due.due("README.md: " + line, answer, Integer.parseInt(m.group(4)));
        if (m.group(1) != null) names.put(m.group(1), answer);
    }

    private void runExample(String readme) throws ReflectiveOperationException {
        Matcher m = EXAMPLE.matcher(readme);
        Due.due("README.md has an example", m.find() ? 1 : 0, 1);
        String[] lines = m.group(1).split("\n");
        Due.due("it begins with a new ball", lines[0].equals(FIRST_LINE) ? 1 : 0, 1);
        for (int i = 1; i < lines.length; i++) {
            if (!lines[i].isEmpty()) runLine(lines[i]);
        }
    }

    private static void dueNamed(String readme, String name) {
        Due.due("README.md names " + name, readme.contains("`" + name + "`") ? 1 : 0, 1);
    }

    public static void main(String[] args) throws IOException, ReflectiveOperationException {
        String readme = Files.readString(Path.of("README.md"));
        new ReadmeTest().runExample(readme);
        for (Method m : DanceCards.class.getDeclaredMethods()) {
            if (Modifier.isPublic(m.getModifiers())) dueNamed(readme, m.getName());
        }
        for (File f : new File("src/test/java").listFiles()) dueNamed(readme, f.getName().replace(".java", ""));
        Due.finish();
    }
}
