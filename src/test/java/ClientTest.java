import java.util.NoSuchElementException;

/** Promises 5 to 8: start, signal, cancel and query. */
public final class ClientTest {
    private static final int MAX = Integer.MAX_VALUE;
    private static final int MIN = Integer.MIN_VALUE;

    public static void main(String[] args) {
        starts();
        startsNotDone();
        signals();
        signalsNotDone();
        cancels();
        queries();
        Checks.end();
    }

    /** Leaves a shard of three with its replica 0 at most. */
    private static void stop(Weave x, int s) {
        x.power(s, 1, false);
        x.power(s, 2, false);
        Checks.due("it does not work", x.shard(s, 0), -1);
    }

    private static void starts() {
        Weave x = Checks.with("b=W;E(b);");
        for (int s = 0; s < 4; s++) {
            Checks.due("start in shard " + s, x.start(s, 0, s), s);
            Checks.due("the second", x.start(400 + s, 0, s), s + 4);
        }
        Checks.due("the greatest request", x.start(MAX, 0, MIN), 11);
        Checks.due("its history", Checks.history(x, 11), "0(0,-2147483648)@2147483647");
        Checks.due("a request that there was", x.start(400, 0, 99), 4);
        Checks.due("for another program, too", x.start(400, 5, 99), 4);
        Checks.due("for no program, too", x.start(400, -1, 99), 4);
        Checks.due("nothing came of that", Checks.history(x, 4), "0(0,0)@400");
        Checks.due("its records", x.replica(0, 0, 1), 2);
        Checks.due("request -1", x.start(-1, 0, 0), -1);
        Checks.due("request least", x.start(MIN, 0, 0), -1);
        for (int p : new int[] {-1, 1, 7, 8, 256, MIN, MAX}) {
            Checks.due("program " + p, x.start(800, p, 0), -1);
        }
        Checks.due("its records", x.replica(0, 0, 1), 2);
        for (int n = 2; n < 16; n++) {
            Checks.due("one more", x.start(4000 + 4 * n, 0, 0), 4 * n);
        }
        Checks.due("the seventeenth", x.start(4, 0, 0), -1);
        Checks.due("one of the sixteen", x.start(4008, 0, 0), 8);
        Checks.due("workflows", x.shard(0, 3), 16);
        Checks.due("a workflow that has ended counts", x.cancel(0) && x.start(4, 0, 0) == -1, true);
        stop(x, 1);
        Checks.due("in a shard that does not work", x.start(5, 0, 0), -1);
        Checks.due("also one that there was", x.start(1, 0, 0), -1);
        x.power(1, 2, true);
        Checks.due("that one", x.start(1, 0, 0), 1);
    }

    private static void startsNotDone() {
        Weave x = Checks.with("E(1);");
        x.fuse(0, 0, 15);
        Checks.due("the leader goes down in STARTED", x.start(0, 0, 0), -1);
        Checks.due("there is none", x.shard(0, 3), 0);
        Checks.due("another leader", x.shard(0, 0), 1);
        Checks.due("the same request again", x.start(0, 0, 0), 0);
        x = Checks.with("E(1);");
        x.fuse(0, 0, 16);
        Checks.due("the leader goes down behind STARTED", x.start(0, 0, 0), 0);
        Checks.due("it went on under another one", Checks.history(x, 0), "0(0,0)@0 10(1,0)");
        x = Checks.with("E(1);");
        x.fuse(0, 1, 3);
        x.fuse(0, 2, 3);
        Checks.due("the others go down", x.start(0, 0, 0), -1);
        Checks.due("there is none", x.shard(0, 3), 0);
        x.power(0, 2, true);
        Checks.due("but the leader had it", Checks.history(x, 0), "0(0,0)@0 10(1,0)");
        Checks.due("the same request again", x.start(0, 0, 0), 0);
    }

    private static void signals() {
        Weave x = Checks.with("b=W;c=W;E(c);");
        x.start(3, 0, 0);
        Checks.due("request -1", x.signal(-1, 3, 5), false);
        Checks.due("request least", x.signal(MIN, 3, 5), false);
        for (int w : new int[] {-1, 0, 2, 4, 7, 63, 64, MIN, MAX}) {
            Checks.due("no workflow " + w, x.signal(1, w, 5), false);
        }
        Checks.due("signal", x.signal(0, 3, MIN), true);
        Checks.due("it went on", x.query(3, 1), MIN);
        Checks.due("the same request", x.signal(0, 3, 8), true);
        Checks.due("nothing was done", Checks.history(x, 3), "0(0,0)@3 8(-2147483648,0)@0");
        stop(x, 3);
        Checks.due("a shard that does not work", x.signal(1, 3, 5), false);
        Checks.due("also a request that there was", x.signal(0, 3, 5), false);
        x.power(3, 1, true);
        Checks.due("it works again", x.signal(MAX, 3, 5), true);
        Checks.due("it has ended", x.workflow(3, 0), 4);
        Checks.due("a request that there was", x.signal(0, 3, 5), true);
        Checks.due("another one", x.signal(1, 3, 5), false);
        Checks.due("its history", Checks.history(x, 3), "0(0,0)@3 8(-2147483648,0)@0 8(5,0)@2147483647 10(5,0)");
    }

    private static void signalsNotDone() {
        Weave x = Checks.with("b=W;c=A0(b);");
        x.start(0, 0, 0);
        x.fuse(0, 0, 7);
        Checks.due("the leader goes down", x.signal(9, 0, 1), false);
        Checks.due("it waits still", x.workflow(0, 0), 2);
        x.fuse(0, 1, 18);
        Checks.due("it goes down in what came of it", x.signal(9, 0, 1), true);
        Checks.due("there is no leader", x.shard(0, 0), -1);
        Checks.due("it was going on", x.workflow(0, 0), 5);
        Checks.due("its history", Checks.history(x, 0), "0(0,0)@0 8(1,0)@9");
        Checks.due("tasks", x.shard(0, 5), 0);
        x.power(0, 0, true);
        Checks.due("it has gone on", Checks.history(x, 0), "0(0,0)@0 8(1,0)@9 1(0,1)");
        Checks.due("the same request", x.signal(9, 0, 1), true);
    }

    private static void cancels() {
        Weave x = Checks.with("b=A0(1);E(b);");
        for (int w : new int[] {-1, 0, 1, 64, MIN, MAX}) {
            Checks.due("no workflow " + w, x.cancel(w), false);
        }
        x.start(0, 0, 0);
        x.start(4, 0, 0);
        x.start(8, 0, 0);
        Checks.due("poll", x.poll(0), 1);
        Checks.due("cancel", x.cancel(0), true);
        Checks.due("its history", Checks.history(x, 0), "0(0,0)@0 1(0,1) 11(-2,0)");
        Checks.due("its end", x.workflow(0, 0) * 10 + x.workflow(0, 1), 38);
        Checks.due("its task is no more", x.task(1, 0), -1);
        Checks.due("so is its lease", x.shard(0, 6), 0);
        Checks.due("finish", x.finish(1, 1), false);
        Checks.due("tasks", x.shard(0, 5), 2);
        Checks.due("again", x.cancel(0), false);
        x.fuse(0, 0, 0);
        Checks.due("the leader goes down", x.cancel(4), false);
        Checks.due("it waits still", x.workflow(4, 0), 0);
        Checks.due("once more", x.cancel(4), true);
        stop(x, 0);
        Checks.due("a shard that does not work", x.cancel(8), false);
        x.power(0, 1, true);
        Checks.due("one of three is up", x.cancel(8), false);
        x.power(0, 0, true);
        Checks.due("when it works again", x.cancel(8), true);
    }

    private static void queries() {
        Weave x = Checks.with("b=W;");
        Checks.dueThrown("no workflow", NoSuchElementException.class, () -> x.query(0, 0));
        x.start(0, 0, -4);
        Checks.due("a", x.query(0, 0), -4);
        Checks.due("h", x.query(0, 7), 0);
        for (int v : new int[] {-1, 8, MIN, MAX}) {
            Checks.dueThrown("no local " + v, NoSuchElementException.class, () -> x.query(0, v));
        }
        for (int w : new int[] {-1, -4, 1, 4, 64, MIN, MAX}) {
            Checks.dueThrown("no workflow " + w, NoSuchElementException.class, () -> x.query(w, 0));
        }
        x.power(0, 0, false);
        Checks.due("under another leader", x.query(0, 0), -4);
        x.power(0, 1, false);
        Checks.dueThrown("it does not work", IllegalStateException.class, () -> x.query(0, 0));
        Checks.dueThrown("no local comes first", NoSuchElementException.class, () -> x.query(0, 8));
        Checks.dueThrown("no workflow comes first", NoSuchElementException.class, () -> x.query(4, 0));
        x.power(0, 1, true);
        x.signal(0, 0, 6);
        Checks.due("of one that has ended", x.query(0, 1), 6);
    }
}
