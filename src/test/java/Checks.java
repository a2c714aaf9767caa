import java.lang.reflect.InvocationTargetException;
import java.lang.reflect.Method;
import java.lang.reflect.Modifier;
import java.util.Arrays;
import java.util.Comparator;
import java.util.Objects;
import java.util.function.Supplier;

/** What all tests use: answers that are due, exceptions that are due, and texts for the tape. */
final class Checks {
    private static int wrong;
    private static int seen;
    private static String current = "";

    private Checks() {
    }

    static void due(String what, Object got, Object want) {
        seen++;
        if (!Objects.equals(got, want)) {
            wrong++;
            if (wrong <= 40) {
                System.out.println(current + what + " answered " + got + ", due is " + want);
            }
        }
    }

    static void dueThrown(String what, Class<? extends RuntimeException> want, Supplier<Object> call) {
        Object got;
        try {
            got = call.get();
        } catch (RuntimeException e) {
            got = e.getClass();
        }
        due(what, got, want);
    }

    /** Runs each static method of a class that takes nothing, and ends: none can be forgotten. */
    static void runAll(Class<?> tests) {
        int found = 0;
        Method[] all = tests.getDeclaredMethods();
        Arrays.sort(all, Comparator.comparing(Method::getName));
        for (Method m : all) {
            if (Modifier.isStatic(m.getModifiers()) && m.getParameterCount() == 0 && m.getReturnType() == void.class) {
                found++;
                current = m.getName() + ": ";
                run(m);
            }
        }
        current = "";
        due("tests were found", found > 0, true);
        end();
    }

    private static void run(Method m) {
        try {
            m.setAccessible(true);
            m.invoke(null);
        } catch (InvocationTargetException e) {
            due("a call", e.getCause(), "an answer");
        } catch (IllegalAccessException e) {
            due("the test", e, "to be run");
        }
    }

    /** Ends the test: exit code 1 if an answer was not the one that is due. */
    static void end() {
        System.out.println(seen + " answers looked at, " + wrong + " wrong");
        System.exit(wrong == 0 ? 0 : 1);
    }

    /** Puts a text on the tape, in words of up to eight characters. */
    static void put(Weave x, String text) {
        for (int from = 0; from < text.length(); from += 8) {
            String part = text.substring(from, Math.min(text.length(), from + 8));
            due("type " + part, x.type(word(part), part.length()), true);
        }
    }

    static long word(String part) {
        long word = 0;
        for (int i = 0; i < part.length(); i++) {
            word = word << 8 | part.charAt(i);
        }
        return word;
    }

    /** Makes a text program p: how many steps. */
    static int tell(Weave x, int p, String text) {
        put(x, text);
        return x.program(p);
    }

    /** A new object with a program 0. */
    static Weave with(String text) {
        Weave x = new Weave();
        tell(x, 0, text);
        return x;
    }

    /** Takes power from replicas, the highest first, until the shard has no leader; replica 0 stays up. */
    static void stop(Weave x, int s) {
        for (int r = x.shard(s, 2) - 1; r > 0 && x.shard(s, 0) >= 0; r--) {
            x.power(s, r, false);
        }
        due("the leader of shard " + s, x.shard(s, 0), -1);
    }

    /** Each whole number that lies next to an edge, and the ends of all ints. */
    static int[] outside(int least, int greatest) {
        return new int[] {Integer.MIN_VALUE, Integer.MIN_VALUE + 1, -least - 2, least - 1, greatest + 1, greatest + 2,
            Integer.MAX_VALUE - 1, Integer.MAX_VALUE};
    }

    /** All of a history, as kind(a,b) with its origin behind @ where it has one. */
    static String history(Weave x, int w) {
        StringBuilder text = new StringBuilder();
        for (int k = 0; k < x.workflow(w, 2); k++) {
            text.append(k == 0 ? "" : " ").append(x.event(w, k, 0)).append('(').append(x.event(w, k, 1)).append(',')
                .append(x.event(w, k, 2)).append(')');
            if (x.event(w, k, 0) == 0 || x.event(w, k, 0) == 8) {
                text.append('@').append(x.event(w, k, 3));
            } else {
                due("the origin of event " + k + " of " + w, x.event(w, k, 3), 0);
            }
        }
        return text.toString();
    }

    /** Record number place of a replica, as n.kind/term(a,b,c). */
    static String record(Weave x, int s, int r, int place) {
        int[] bytes = new int[16];
        for (int i = 0; i < 16; i++) {
            bytes[i] = x.disk(s, r, place / 32, place % 32 * 16 + i);
        }
        due("byte 15 of record " + place, bytes[15], 1);
        return bytes[0] / 16 + "." + bytes[0] % 16 + "/" + (bytes[1] * 256 + bytes[2]) + "(" + word(bytes, 3) + ","
            + word(bytes, 7) + "," + word(bytes, 11) + ")";
    }

    private static int word(int[] bytes, int at) {
        return bytes[at] << 24 | bytes[at + 1] << 16 | bytes[at + 2] << 8 | bytes[at + 3];
    }

    /** All whole records of a replica. */
    static String log(Weave x, int s, int r) {
        StringBuilder text = new StringBuilder();
        for (int place = 0; place < x.replica(s, r, 1); place++) {
            text.append(place == 0 ? "" : " ").append(record(x, s, r, place));
        }
        return text.toString();
    }
}
