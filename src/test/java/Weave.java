import java.util.ArrayList;
import java.util.List;
import java.util.function.Function;

/**
 * A TaskWeave that is never called more than 512 times, since nothing is promised behind that. A test may look as
 * often as it likes: when an object has had its calls, a new one is brought to the same state by the same deeds, and
 * must answer each of them as the first one did.
 */
final class Weave {
    static final int CALLS = 512;

    private final List<Function<TaskWeave, Object>> deeds = new ArrayList<>();
    private final List<Object> answers = new ArrayList<>();
    private TaskWeave one = new TaskWeave();
    private int calls;

    private static Object answer(TaskWeave x, Function<TaskWeave, Object> call) {
        try {
            return call.apply(x);
        } catch (RuntimeException e) {
            return e;
        }
    }

    private static Object shown(Object answer) {
        return answer instanceof RuntimeException ? answer.getClass() : answer;
    }

    private void spend() {
        if (calls == CALLS) {
            one = new TaskWeave();
            calls = deeds.size() + 1;
            for (int i = 0; i < deeds.size(); i++) {
                Checks.due("deed " + i + " on a new object", shown(answer(one, deeds.get(i))), shown(answers.get(i)));
            }
        } else {
            calls++;
        }
        if (calls > CALLS) {
            throw new Error("the test asks for more than " + CALLS + " calls");
        }
    }

    @SuppressWarnings("unchecked")
    private static <T> T told(Object answer) {
        if (answer instanceof RuntimeException thrown) {
            throw thrown;
        }
        return (T) answer;
    }

    private <T> T look(Function<TaskWeave, Object> call) {
        spend();
        return told(answer(one, call));
    }

    private <T> T deed(Function<TaskWeave, Object> call) {
        spend();
        Object got = answer(one, call);
        deeds.add(call);
        answers.add(got);
        return told(got);
    }

    boolean type(long word, int n) {
        return this.<Boolean>deed(x -> x.type(word, n));
    }

    int program(int p) {
        return this.<Integer>deed(x -> x.program(p));
    }

    int fault() {
        return this.<Integer>look(TaskWeave::fault);
    }

    int start(int request, int p, int argument) {
        return this.<Integer>deed(x -> x.start(request, p, argument));
    }

    boolean signal(int request, int w, int v) {
        return this.<Boolean>deed(x -> x.signal(request, w, v));
    }

    boolean cancel(int w) {
        return this.<Boolean>deed(x -> x.cancel(w));
    }

    int query(int w, int v) {
        return this.<Integer>look(x -> x.query(w, v));
    }

    int poll(int kind) {
        return this.<Integer>deed(x -> x.poll(kind));
    }

    boolean beat(int token) {
        return this.<Boolean>deed(x -> x.beat(token));
    }

    boolean finish(int token, int value) {
        return this.<Boolean>deed(x -> x.finish(token, value));
    }

    boolean fail(int token) {
        return this.<Boolean>deed(x -> x.fail(token));
    }

    int task(int token, int what) {
        return this.<Integer>look(x -> x.task(token, what));
    }

    int tick(int n) {
        return this.<Integer>deed(x -> x.tick(n));
    }

    boolean replicas(int shard, int n) {
        return this.<Boolean>deed(x -> x.replicas(shard, n));
    }

    boolean power(int shard, int replica, boolean up) {
        return this.<Boolean>deed(x -> x.power(shard, replica, up));
    }

    boolean fuse(int shard, int replica, int bytes) {
        return this.<Boolean>deed(x -> x.fuse(shard, replica, bytes));
    }

    int workflow(int w, int what) {
        return this.<Integer>look(x -> x.workflow(w, what));
    }

    int event(int w, int k, int what) {
        return this.<Integer>look(x -> x.event(w, k, what));
    }

    int shard(int s, int what) {
        return this.<Integer>look(x -> x.shard(s, what));
    }

    int replica(int s, int r, int what) {
        return this.<Integer>look(x -> x.replica(s, r, what));
    }

    int disk(int s, int r, int block, int i) {
        return this.<Integer>look(x -> x.disk(s, r, block, i));
    }
}
