import java.io.IOException;
import java.lang.reflect.InvocationTargetException;
import java.lang.reflect.Method;
import java.lang.reflect.Modifier;
import java.nio.file.Files;
import java.nio.file.Path;
import java.util.List;
import java.util.regex.Matcher;
import java.util.regex.Pattern;
import java.util.stream.Stream;

/** README.md: its example answers what it tells, and it names every call of the face and every test. */
public final class ReadmeTest {
    private static final Pattern EXAMPLE = Pattern.compile("x\\.(\\w+)\\((.*)\\); +// (true|false|-?\\d+):.*");

    public static void main(String[] args) throws IOException, IllegalAccessException, InvocationTargetException {
        List<String> lines = Files.readAllLines(Path.of("README.md"));
        runExample(lines);
        String text = String.join("\n", lines);
        for (Method m : TaskWeave.class.getDeclaredMethods()) {
            if (Modifier.isPublic(m.getModifiers())) {
                Checks.due(m.getName() + " is named", text.contains("`" + m.getName() + "`"), true);
            }
        }
        try (Stream<Path> tests = Files.list(Path.of("src/test/java"))) {
            for (Path test : tests.toList()) {
                String name = test.getFileName().toString().replace(".java", "");
                Checks.due(name + " is named", text.contains("`" + name + "`"), true);
            }
        }
        Checks.end();
    }

    private static void runExample(List<String> lines) throws IllegalAccessException, InvocationTargetException {
        TaskWeave x = new TaskWeave();
        int calls = 0;
        for (String line : lines) {
            Matcher told = EXAMPLE.matcher(line);
            if (told.matches()) {
                calls++;
                Object got = answer(x, told.group(1), told.group(2).split(", *"));
                Checks.due(line, String.valueOf(got), told.group(3));
            } else {
                Checks.due(line + " is understood", line.startsWith("x."), false);
            }
        }
        Checks.due("the example has calls", calls > 0, true);
    }

    private static Object answer(TaskWeave x, String name, String[] words)
            throws IllegalAccessException, InvocationTargetException {
        for (Method m : TaskWeave.class.getDeclaredMethods()) {
            if (m.getName().equals(name) && Modifier.isPublic(m.getModifiers())) {
                Class<?>[] types = m.getParameterTypes();
                Object[] values = new Object[types.length];
                for (int i = 0; i < types.length; i++) {
                    values[i] = value(words[i], types[i]);
                }
                return m.invoke(x, values);
            }
        }
        return "no such call";
    }

    private static Object value(String word, Class<?> type) {
        if (type == boolean.class) {
            return Boolean.valueOf(word);
        }
        long number = Long.decode(word.replace("L", ""));
        if (type == long.class) {
            return number;
        }
        return (int) number;
    }
}
