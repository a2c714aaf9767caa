import java.lang.reflect.Constructor;
import java.lang.reflect.Field;
import java.lang.reflect.Member;
import java.lang.reflect.Method;
import java.lang.reflect.Modifier;
import java.util.Arrays;
import java.util.List;
import java.util.Set;
import java.util.TreeSet;

/**
 * The document's "public face", and rule 1 of LANGUAGE.md: the class shows that and nothing else, and its private
 * methods bear other names.
 */
public final class FaceTest {
    private static final String[] FACE = {
        "boolean type(long,int)", "int program(int)", "int fault()", "int start(int,int,int)",
        "boolean signal(int,int,int)", "boolean cancel(int)", "int query(int,int)", "int poll(int)",
        "boolean beat(int)", "boolean finish(int,int)", "boolean fail(int)", "int task(int,int)", "int tick(int)",
        "boolean replicas(int,int)", "boolean power(int,int,boolean)", "boolean fuse(int,int,int)",
        "int workflow(int,int)", "int event(int,int,int)", "int shard(int,int)", "int replica(int,int,int)",
        "int disk(int,int,int,int)",
    };

    public static void main(String[] args) {
        TreeSet<String> seen = new TreeSet<>();
        for (Method m : TaskWeave.class.getDeclaredMethods()) {
            if (Modifier.isPublic(m.getModifiers())) {
                String parameters = String.join(",",
                    Arrays.stream(m.getParameterTypes()).map(Class::getName).toList());
                seen.add(m.getReturnType().getName() + " " + m.getName() + "(" + parameters + ")");
            } else {
                hidden(m);
            }
        }
        Checks.due("the public methods", seen, new TreeSet<>(List.of(FACE)));
        Checks.due("the class is public and final",
            TaskWeave.class.getModifiers() & (Modifier.PUBLIC | Modifier.FINAL), Modifier.PUBLIC | Modifier.FINAL);
        Checks.due("constructors", TaskWeave.class.getDeclaredConstructors().length, 1);
        for (Constructor<?> c : TaskWeave.class.getDeclaredConstructors()) {
            Checks.due("it is public", Modifier.isPublic(c.getModifiers()), true);
            Checks.due("its parameters", c.getParameterCount(), 0);
        }
        for (Field f : TaskWeave.class.getDeclaredFields()) {
            if (f.getName().equals("NONE")) {
                Checks.due("NONE is public", Modifier.isPublic(f.getModifiers()), true);
            } else {
                hidden(f);
            }
        }
        Checks.due("NONE", TaskWeave.NONE, -1);
        innerNames();
        Checks.end();
    }

    private static void hidden(Member m) {
        Checks.due(m.getName() + " is private", Modifier.isPrivate(m.getModifiers()) || m.isSynthetic(), true);
    }

    private static void innerNames() {
        TreeSet<String> names = new TreeSet<>();
        for (String line : FACE) {
            names.add(line.substring(line.indexOf(' ') + 1, line.indexOf('(')));
        }
        for (Method m : TaskWeave.class.getDeclaredMethods()) {
            privateName(m, names);
        }
        for (Class<?> c : TaskWeave.class.getDeclaredClasses()) {
            Checks.due(c.getName() + " is static", Modifier.isStatic(c.getModifiers()), true);
            Checks.due(c.getName() + " is not public", Modifier.isPublic(c.getModifiers()), false);
            for (Method m : c.getDeclaredMethods()) {
                privateName(m, names);
            }
        }
    }

    private static void privateName(Method m, Set<String> names) {
        boolean shared = Modifier.isPrivate(m.getModifiers()) && names.contains(m.getName());
        Checks.due(m + " has a name of the face", shared, false);
    }
}
