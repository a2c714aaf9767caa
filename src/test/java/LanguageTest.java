import java.io.IOException;
import java.io.PrintWriter;
import java.io.StringWriter;
import java.lang.reflect.Field;
import java.lang.reflect.Method;
import java.lang.reflect.Modifier;
import java.nio.file.Files;
import java.nio.file.Path;
import java.util.ArrayList;
import java.util.HashMap;
import java.util.List;
import java.util.Map;
import java.util.TreeSet;
import java.util.regex.Matcher;
import java.util.regex.Pattern;
import java.util.spi.ToolProvider;

/**
 * Those rules of LANGUAGE.md that can be counted: of 2, 4 to 6 and 10 what must not stand in the source, and all of 11.
 * Its arguments: the source file and the directory of classes.
 */
public final class LanguageTest {
    private static final Pattern CLASS = Pattern.compile("^(?:(?:public|private|final|static) )*class ([\\w$]+).*");
    private static final Pattern METHOD = Pattern.compile("^  \\S.*?([\\w$]+)\\(.*\\).*;$");
    private static final Pattern CALL = Pattern.compile("// (?:Interface)?Method ([^:]+):.*");
    private static final Pattern MADE_AT_RUN_TIME = Pattern.compile("// InvokeDynamic #\\d+:(\\w+):.*");
    private static final Pattern QUIET = Pattern.compile("//.*|/\\*.*?\\*/|^\\s*/?\\*.*|\"(?:[^\"\\\\]|\\\\.)*\"");
    private static final Pattern FORBIDDEN = Pattern.compile(
        "::|\\b(?:finally|synchronized|assert|\\w+Exact|getMessage|hashCode|System\\.(?!arraycopy)|Thread|Random)\\b");

    public static void main(String[] args) throws IOException {
        source(Files.readAllLines(Path.of(args[0])));
        List<Class<?>> classes = new ArrayList<>(List.of(TaskWeave.class.getDeclaredClasses()));
        classes.add(TaskWeave.class);
        Checks.due("some twelve classes at most", classes.size() <= 14, true);
        for (Class<?> c : classes) {
            members(c);
        }
        Map<String, TreeSet<String>> calls = calls(Path.of(args[1]), classes);
        Checks.due("methods were found", calls.size() > 20, true);
        Map<String, Integer> depths = new HashMap<>();
        for (String method : calls.keySet()) {
            Checks.due(method + " goes at most eight deep", depth(method, calls, depths) <= 8, true);
        }
        Checks.end();
    }

    private static void source(List<String> lines) {
        int begun = -1;
        for (int i = 0; i < lines.size(); i++) {
            String line = lines.get(i);
            boolean forbidden = FORBIDDEN.matcher(QUIET.matcher(line).replaceAll("")).find();
            Checks.due("line " + (i + 1) + " " + line + " is forbidden", forbidden, false);
            String bare = line.strip();
            int indent = line.length() - line.stripLeading().length();
            if (indent <= 8 && bare.endsWith("{") && bare.contains("(")) {
                begun = i;
            } else if (bare.equals("}") && begun >= 0 && indent <= 8) {
                Checks.due("the method at line " + (begun + 1) + " has some sixty lines", i - begun <= 65, true);
                begun = -1;
            }
        }
    }

    private static void members(Class<?> c) {
        int fields = 0;
        for (Field f : c.getDeclaredFields()) {
            boolean fixed = Modifier.isStatic(f.getModifiers());
            fields += fixed ? 0 : 1;
            Checks.due(c.getName() + "." + f.getName() + " is final", fixed && !Modifier.isFinal(f.getModifiers()),
                false);
        }
        Checks.due(c.getName() + " has some twenty fields at most", fields <= 22, true);
        for (Method m : c.getDeclaredMethods()) {
            Checks.due(c.getName() + "." + m.getName() + " has few parameters", m.getParameterCount() <= 7, true);
        }
    }

    /** Which methods of the program each of its methods calls, as its compiled code tells. */
    private static Map<String, TreeSet<String>> calls(Path directory, List<Class<?>> classes) {
        StringWriter text = new StringWriter();
        List<String> arguments = new ArrayList<>(List.of("-p", "-c", "-cp", directory.toString()));
        classes.forEach(c -> arguments.add(c.getName()));
        ToolProvider javap = ToolProvider.findFirst("javap").orElseThrow();
        javap.run(new PrintWriter(text), new PrintWriter(System.err), arguments.toArray(new String[0]));
        Map<String, TreeSet<String>> calls = new HashMap<>();
        String within = "";
        String method = "";
        for (String line : text.toString().split("\\R")) {
            Matcher c = CLASS.matcher(line);
            Matcher m = METHOD.matcher(line);
            Matcher call = CALL.matcher(line);
            Matcher made = MADE_AT_RUN_TIME.matcher(line);
            if (made.find()) {
                Checks.due(method + " has a lambda, or joins texts by +",
                    List.of("toString", "hashCode", "equals").contains(made.group(1)), true);
            }
            if (c.matches()) {
                within = c.group(1);
            } else if (m.matches()) {
                method = within + "." + (m.group(1).equals(within) ? "<init>" : m.group(1));
                calls.put(method, new TreeSet<>());
            } else if (call.find()) {
                String name = call.group(1).replace("\"", "");
                String full = name.contains(".") ? name : within + "." + name;
                if (full.startsWith("TaskWeave")) {
                    calls.get(method).add(full);
                }
            }
        }
        return calls;
    }

    /** A call back to a method that stands open is recursion, which has a rule of its own. */
    private static int depth(String method, Map<String, TreeSet<String>> calls, Map<String, Integer> depths) {
        if (depths.containsKey(method)) {
            return depths.get(method);
        }
        depths.put(method, 0);
        int most = 0;
        for (String next : calls.getOrDefault(method, new TreeSet<>())) {
            most = Math.max(most, depth(next, calls, depths));
        }
        depths.put(method, most + 1);
        return most + 1;
    }
}
