import java.util.ArrayList;
import java.util.List;
import java.util.Random;
import java.util.function.Supplier;

/** Chance runs (always the same ones) on TaskWeave and on the Model: each answer must be the same. */
public final class ModelTest {
    private static final String[] VALUES = {"a", "b", "c", "0", "1", "2", "-1", "5", "a", "g"};
    private static final String[] TOLD = {
        "b=A0(a);E(b);", "b=W;c=W;d=b+c;E(d);", "T(a);b=A1(a);T(2);E(b);", "b=C1(a);c=J(b);E(c);",
        "0:b=C0(a);c=C5(2);S(b,7);S(c,8);d=J(c);e=J(b);f=d+e;E(f);", "S(-1,a);b=W;S(-1,b);E(b);",
        "0:b=A0(b);b=b+1;G0;", "0:b=W;c=c+b;I(b)0;E(c);", "0:a=a+1;b=a<150;I(b)0;c=W;d=A2(c);E(d);",
        "0:b=C3(a);c=b<20;I(c)0;1:d=J(e);e=e+1;I(c)1;E(e);", "a=a-1;b=0<a;b=b=0;I(b)0;c=C2(a);d=J(c);0:E(a);",
        "0:S(-1,a);b=b+1;c=b<7;I(c)0;d=W;E(d);", "0:a=a+1;G0;", "0:a=A0(a);b=b+1;c=b<3;I(c)0;T(b);S(-1,b);", "",
        "b=C4(3);T(1);S(b,1);S(b,2);c=J(b);d=J(b);E(d);", "b=W;c=A3(b);S(-1,c);T(c);d=W;E(d);",
    };

    private static final int[] EDGES = {
        0, 1, 2, 3, 4, 5, 6, -1, 7, 8, 9, 10, 15, 16, 17, 31, 32, 59, 60, 61, 63, 64, 255, 256, 299, 300, 301, 499, 500,
        501, 511, 512, 4194304, 8388608, 99999, 100000, 100001, -2, -3, -4, -64, -65, Integer.MAX_VALUE - 1,
        Integer.MAX_VALUE, Integer.MIN_VALUE, Integer.MIN_VALUE + 1, 0x21212121, 0x7E7E7E7E,
    };

    private static final String SIGNS = "abhiACEGIJSTW0123789:;=+-*<(),x!";

    private final Random random;
    private final Weave x = new Weave();
    private final Model y = new Model();
    private final List<Integer> tokens = new ArrayList<>(List.of(0, 1));
    private final StringBuilder told = new StringBuilder();
    private final boolean stormy;
    private int requests;

    private ModelTest(long seed) {
        random = new Random(seed);
        stormy = seed % 3 != 0;
        told.append("seed ").append(seed).append(": ");
    }

    private static Object answer(Supplier<Object> call) {
        try {
            return call.get();
        } catch (RuntimeException e) {
            return e.getClass().getSimpleName();
        }
    }

    private boolean same(String call, Supplier<Object> one, Supplier<Object> two) {
        Object got = answer(one);
        Object want = answer(two);
        if (got instanceof Integer && call.startsWith("poll") && !got.equals(-1)) {
            tokens.add((Integer) got);
        }
        told.append(call).append('=').append(got).append(' ');
        boolean equal = got.equals(want);
        Checks.due(equal ? call : told.toString(), got, want);
        return equal;
    }

    private boolean look(String call, int got, int want) {
        if (got != want) {
            Checks.due(told + call, got, want);
        }
        return got == want;
    }

    private String value() {
        return VALUES[random.nextInt(VALUES.length)];
    }

    private String chanceStep() {
        char v = (char) ('a' + random.nextInt(4));
        return switch (random.nextInt(13)) {
            case 0, 1 -> v + "=" + value() + "+-*<=".charAt(random.nextInt(5)) + value();
            case 2 -> v + "=A" + random.nextInt(3) + "(" + value() + ")";
            case 3 -> v + "=W";
            case 4, 5 -> v + "=C" + random.nextInt(8) + "(" + value() + ")";
            case 6 -> v + "=J(" + value() + ")";
            case 7 -> "T(" + value() + ")";
            case 8, 9 -> "S(" + value() + "," + value() + ")";
            case 10 -> "I(" + value() + ")" + random.nextInt(2);
            case 11 -> random.nextInt(4) == 0 ? "E(" + value() + ")" : v + "=" + value();
            default -> random.nextInt(3) == 0 ? "G" + random.nextInt(2) : v + "=W";
        };
    }

    private String chanceText() {
        if (random.nextInt(3) > 0) {
            return TOLD[random.nextInt(TOLD.length)];
        }
        int steps = 1 + random.nextInt(9);
        StringBuilder text = new StringBuilder();
        for (int i = 0; i < steps; i++) {
            text.append(i == 0 ? "0:" : i == steps / 2 ? "1:" : "").append(chanceStep()).append(';');
        }
        return text.toString();
    }

    /** A good text with a few characters changed, left out or put in. */
    private String spoiledText() {
        StringBuilder text = new StringBuilder(chanceText()).append(chanceText());
        for (int i = random.nextInt(3); i >= 0 && text.length() > 0; i--) {
            int at = random.nextInt(text.length());
            char c = SIGNS.charAt(random.nextInt(SIGNS.length()));
            switch (random.nextInt(5)) {
                case 0 -> text.deleteCharAt(at);
                case 1 -> text.insert(at, c);
                case 2 -> text.setLength(at);
                default -> text.setCharAt(at, c);
            }
        }
        return text.toString();
    }

    private boolean tell(int p) {
        return tell(p, chanceText());
    }

    private boolean tell(int p, String text) {
        boolean good = true;
        for (int from = 0; from < text.length(); from += 8) {
            String part = text.substring(from, Math.min(text.length(), from + 8));
            long word = Checks.word(part);
            good &= same("type(" + part + ")", () -> x.type(word, part.length()), () -> y.type(word, part.length()));
        }
        return good & same("program(" + p + ")", () -> x.program(p), () -> y.program(p))
            && same("fault()", x::fault, y::fault);
    }

    /** Any call with numbers from the edges of all that the document names, and from far beyond them. */
    private boolean edgeCall() {
        int a = edge();
        int b = edge();
        int c = edge();
        int d = edge();
        boolean up = random.nextBoolean();
        return switch (random.nextInt(20)) {
            case 0 -> same("type(" + d + "," + a + ")", () -> x.type(d, a), () -> y.type(d, a));
            case 1 -> same("program(" + a + ")", () -> x.program(a), () -> y.program(a));
            case 2 -> same("start(" + a + "," + b + "," + c + ")", () -> x.start(a, b, c), () -> y.start(a, b, c));
            case 3 -> same("signal(" + a + "," + b + "," + c + ")", () -> x.signal(a, b, c), () -> y.signal(a, b, c));
            case 4 -> same("cancel(" + a + ")", () -> x.cancel(a), () -> y.cancel(a));
            case 5 -> same("query(" + a + "," + b + ")", () -> x.query(a, b), () -> y.query(a, b));
            case 6 -> same("poll(" + a + ")", () -> x.poll(a), () -> y.poll(a));
            case 7 -> same("beat(" + a + ")", () -> x.beat(a), () -> y.beat(a));
            case 8 -> same("finish(" + a + "," + b + ")", () -> x.finish(a, b), () -> y.finish(a, b));
            case 9 -> same("fail(" + a + ")", () -> x.fail(a), () -> y.fail(a));
            case 10 -> same("task(" + a + "," + b + ")", () -> x.task(a, b), () -> y.task(a, b));
            case 11 -> same("tick(" + a + ")", () -> x.tick(a), () -> y.tick(a));
            case 12 -> same("replicas(" + a + "," + b + ")", () -> x.replicas(a, b), () -> y.replicas(a, b));
            case 13 -> same("power(" + a + "," + b + "," + up + ")", () -> x.power(a, b, up), () -> y.power(a, b, up));
            case 14 -> same("fuse(" + a + "," + b + "," + c + ")", () -> x.fuse(a, b, c), () -> y.fuse(a, b, c));
            case 15 -> same("workflow(" + a + "," + b + ")", () -> x.workflow(a, b), () -> y.workflow(a, b));
            case 16 -> same("event(" + a + "," + b + "," + c + ")", () -> x.event(a, b, c), () -> y.event(a, b, c));
            case 17 -> same("shard(" + a + "," + b + ")", () -> x.shard(a, b), () -> y.shard(a, b));
            case 18 -> same("replica(" + a + "," + b + "," + c + ")", () -> x.replica(a, b, c),
                () -> y.replica(a, b, c));
            default -> same("disk(" + a + "," + b + "," + c + "," + d + ")", () -> x.disk(a, b, c, d),
                () -> y.disk(a, b, c, d));
        };
    }

    private int edge() {
        return EDGES[random.nextInt(random.nextInt(3) > 0 ? 8 : EDGES.length)];
    }

    private boolean chanceCall() {
        if (random.nextInt(5) == 0) {
            return edgeCall();
        }
        int w = random.nextInt(random.nextInt(8) == 0 ? 64 : 16);
        int s = random.nextInt(4);
        int r = random.nextInt(random.nextInt(6) == 0 ? 6 : 3);
        int v = random.nextInt(6) - 1;
        int token = tokens.get(Math.max(0, tokens.size() - 1 - random.nextInt(4)));
        switch (random.nextInt(stormy ? 20 : 14)) {
            case 0: case 1: {
                int request = random.nextInt(4) == 0 ? random.nextInt(20) - 1 : 20 + requests++;
                int p = random.nextInt(9);
                return same("start(" + request + "," + p + "," + v + ")", () -> x.start(request, p, v),
                    () -> y.start(request, p, v));
            }
            case 2: case 3: {
                int request = random.nextInt(3) == 0 ? random.nextInt(8) - 1 : 20 + requests++;
                return same("signal(" + request + "," + w + "," + v + ")", () -> x.signal(request, w, v),
                    () -> y.signal(request, w, v));
            }
            case 4:
                return random.nextInt(3) > 0 || same("cancel(" + w + ")", () -> x.cancel(w), () -> y.cancel(w));
            case 5: case 6: {
                int kind = random.nextInt(3);
                return same("poll(" + kind + ")", () -> x.poll(kind), () -> y.poll(kind));
            }
            case 7: case 8:
                return same("finish(" + token + "," + v + ")", () -> x.finish(token, v), () -> y.finish(token, v));
            case 9:
                return same("fail(" + token + ")", () -> x.fail(token), () -> y.fail(token));
            case 10:
                return same("beat(" + token + ")", () -> x.beat(token), () -> y.beat(token));
            case 11: case 12: {
                int n = random.nextInt(4) == 0 ? 1 + random.nextInt(25) : 1;
                return same("tick(" + n + ")", () -> x.tick(n), () -> y.tick(n));
            }
            case 13:
                return random.nextInt(3) > 0 || tell(random.nextInt(8));
            case 14: case 15: {
                int bytes = random.nextInt(random.nextInt(3) == 0 ? 40 : 300);
                return same("fuse(" + s + "," + r + "," + bytes + ")", () -> x.fuse(s, r, bytes),
                    () -> y.fuse(s, r, bytes));
            }
            case 16:
                return same("power(" + s + "," + r + ",false)", () -> x.power(s, r, false),
                    () -> y.power(s, r, false));
            default:
                return same("power(" + s + "," + r + ",true)", () -> x.power(s, r, true), () -> y.power(s, r, true));
        }
    }

    private boolean looksSame() {
        boolean good = true;
        for (int s = 0; s < 4 && good; s++) {
            for (int what = 0; what < 7; what++) {
                good &= look("shard(" + s + "," + what + ")", x.shard(s, what), y.shard(s, what));
            }
            for (int r = 0; r < 5; r++) {
                for (int what = 0; what < 4; what++) {
                    good &= look("replica(" + s + "," + r + "," + what + ")", x.replica(s, r, what),
                        y.replica(s, r, what));
                }
            }
        }
        return good;
    }

    private boolean workflowsLookSame() {
        boolean good = true;
        for (int w = 0; w < 64 && good; w++) {
            int one = w;
            for (int what = 0; what < 7; what++) {
                good &= look("workflow(" + w + "," + what + ")", x.workflow(w, what), y.workflow(w, what));
            }
            for (int k = 0; k < y.workflow(w, 2) && good; k++) {
                for (int what = 0; what < 4; what++) {
                    good &= look("event(" + w + "," + k + "," + what + ")", x.event(w, k, what),
                        y.event(w, k, what));
                }
            }
            for (int v = 0; v < 8 && y.workflow(w, 0) >= 0; v++) {
                int local = v;
                Object got = answer(() -> x.query(one, local));
                Object want = answer(() -> y.query(one, local));
                if (!got.equals(want)) {
                    Checks.due(told + "query(" + w + "," + v + ")", got, want);
                    good = false;
                }
            }
        }
        for (int token : tokens) {
            for (int what = 0; what < 4; what++) {
                good &= look("task(" + token + "," + what + ")", x.task(token, what), y.task(token, what));
            }
        }
        return good;
    }

    private boolean disksLookSame() {
        boolean good = true;
        for (int s = 0; s < 4; s++) {
            for (int r = 0; r < y.shard(s, 2); r++) {
                int blocks = y.replica(s, r, 1) / 32 + 2;
                for (int i = 0; i < 512 * blocks && good; i++) {
                    good = look("disk(" + s + "," + r + "," + i / 512 + "," + i % 512 + ")",
                        x.disk(s, r, i / 512, i % 512), y.disk(s, r, i / 512, i % 512));
                }
            }
        }
        return good;
    }

    /** Stops at the first answer that differs: what comes behind it would differ, too. */
    private void go(int calls) {
        boolean good = true;
        for (int s = 0; s < 4; s++) {
            int one = s;
            int n = 2 + random.nextInt(5);
            good &= same("replicas(" + s + "," + n + ")", () -> x.replicas(one, n), () -> y.replicas(one, n));
        }
        for (int p = 0; p < 6; p++) {
            good &= tell(p);
        }
        for (int i = 0; i < calls && good; i++) {
            good = chanceCall() && looksSame() && (i % 8 > 0 || workflowsLookSame());
        }
        if (good && workflowsLookSame()) {
            disksLookSame();
        }
    }

    public static void main(String[] args) {
        int runs = args.length > 2 ? Integer.parseInt(args[2]) : 400;
        int first = args.length > 3 ? Integer.parseInt(args[3]) : 1;
        for (int seed = first; seed < first + runs; seed++) {
            new ModelTest(seed).go(120);
            ModelTest texts = new ModelTest(seed);
            for (int i = 0; i < 40; i++) {
                texts.tell(i % 8, texts.spoiledText());
            }
        }
        Checks.end();
    }
}
