/** Promise 14: tick, its order and its edges. */
public final class TickTest {
    public static void main(String[] args) {
        numbers();
        timersByNumbers();
        timersAheadOfLeases();
        oneTurnInATick();
        electionInATick();
        noLeader();
        manyTicksAreOneByOne();
        Checks.end();
    }

    private static void numbers() {
        Weave x = new Weave();
        for (int n : new int[] {0, -1, 501, Integer.MIN_VALUE, Integer.MAX_VALUE}) {
            Checks.dueThrown("tick(" + n + ")", IllegalArgumentException.class, () -> x.tick(n));
        }
        Checks.due("one tick", x.tick(1), 1);
        Checks.due("500 ticks", x.tick(500), 501);
        Checks.due("two ticks", x.tick(2), 503);
    }

    /** The order shows in the log: each timer goes on ahead of the next one. */
    private static void timersByNumbers() {
        Weave x = Checks.with("T(a);b=A0(0);");
        x.start(0, 0, 3);
        x.start(4, 0, 2);
        x.start(8, 0, 3);
        x.tick(3);
        Checks.due("the log", Checks.log(x, 0, 0), "0.0/0(0,3,0) 0.4/0(3,0,0) 1.0/0(0,2,4) 1.4/0(2,0,0) 2.0/0(0,3,8) "
            + "2.4/0(3,0,0) 1.5/0(2,0,0) 1.1/0(0,0,0) 0.5/0(3,0,0) 0.1/0(0,0,0) 2.5/0(3,0,0) 2.1/0(0,0,0)");
        x.poll(0);
        Checks.due("ready longest", x.task(1, 0), 4);
    }

    private static void timersAheadOfLeases() {
        Weave x = Checks.with("b=A0(0);");
        Checks.tell(x, 1, "T(10);E(1);");
        x.start(0, 0, 0);
        x.start(4, 0, 0);
        x.start(8, 1, 0);
        x.poll(0);
        x.poll(0);
        x.tick(10);
        Checks.due("the log", Checks.log(x, 0, 0), "0.0/0(0,0,0) 0.1/0(0,0,0) 1.0/0(0,0,4) 1.1/0(0,0,0) 2.0/0(1,0,8) "
            + "2.4/0(10,0,0) 2.5/0(10,0,0) 2.10/0(1,0,0) 0.15/0(2,12,0) 1.15/0(2,12,0)");
    }

    private static void oneTurnInATick() {
        Weave x = Checks.with("0:T(0);G0;");
        x.start(0, 0, 0);
        for (int i = 1; i <= 5; i++) {
            x.tick(1);
            Checks.due("events behind tick " + i, x.workflow(0, 2), 2 + 2 * i);
        }
    }

    /** Workflow 0's timer is not done; the election brings what it had, and the tick goes on with the next one. */
    private static void electionInATick() {
        Weave x = Checks.with("T(1);b=A0(0);");
        x.start(0, 0, 0);
        x.start(4, 0, 0);
        x.fuse(0, 0, 1);
        x.tick(1);
        Checks.due("workflow 0 waits still", Checks.history(x, 0), "0(0,0)@0 4(1,0)");
        Checks.due("workflow 1 went on", Checks.history(x, 4), "0(0,0)@4 4(1,0) 5(1,0) 1(0,0)");
        x.tick(1);
        Checks.due("workflow 0 in the next tick", Checks.history(x, 0), "0(0,0)@0 4(1,0) 5(2,0) 1(0,0)");
        // The TIMER of workflow 4 is not done, but lies on the leader's disk: it waits since the election.
        Weave y = Checks.with("T(a);T(0);E(3);");
        y.start(0, 0, 1);
        y.fuse(0, 1, 16);
        y.fuse(0, 2, 16);
        Checks.due("start", y.start(4, 0, 0), 4);
        Checks.due("it was going on", y.workflow(4, 0), 5);
        Checks.due("no leader", y.shard(0, 0), -1);
        y.tick(2);
        Checks.due("nothing was done", y.workflow(0, 0), 1);
        y.power(0, 1, true);
        Checks.due("the log", Checks.log(y, 0, 1),
            "0.0/0(0,1,0) 0.4/0(1,0,0) 1.0/0(0,0,4) 1.4/0(0,0,0) 0.13/1(0,0,0)");
        y.tick(1);
        Checks.due("both fired", y.workflow(0, 2) * 10 + y.workflow(4, 2), 44);
    }

    private static void noLeader() {
        Weave x = Checks.with("T(2);E(1);");
        x.start(0, 0, 0);
        x.start(1, 0, 0);
        x.power(0, 0, false);
        x.power(0, 1, false);
        Checks.due("the clock", x.tick(5), 5);
        Checks.due("its timer waits", x.workflow(0, 0), 1);
        Checks.due("another shard's does not", x.workflow(1, 0), 4);
        x.power(0, 1, true);
        Checks.due("it waits for a tick", x.workflow(0, 0), 1);
        x.tick(1);
        Checks.due("fired at", x.event(0, 2, 1), 6);
    }

    private static Weave busy() {
        Weave x = Checks.with("0:T(a);b=C1(b);c=J(b);I(c)0;E(b);");
        Checks.tell(x, 1, "T(7);b=A0(a);S(-1,b);T(9);E(b);");
        for (int request = 0; request < 8; request++) {
            x.start(request, 0, 3 * request);
        }
        x.power(3, 0, false);
        x.power(3, 1, false);
        return x;
    }

    private static void manyTicksAreOneByOne() {
        Weave x = busy();
        Weave y = busy();
        for (int round = 0; round < 6; round++) {
            for (int i = 0; i < 3; i++) {
                int token = x.poll(0);
                Checks.due("poll", y.poll(0), token);
                Checks.due("finish", y.finish(token - i % 2, 5), x.finish(token - i % 2, 5));
            }
            int n = 17 + 20 * round;
            int clock = x.tick(n);
            for (int i = 1; i < n; i++) {
                y.tick(1);
            }
            Checks.due("the clock", y.tick(1), clock);
            for (int s = 0; s < 4; s++) {
                Checks.due("the log of shard " + s, Checks.log(x, s, 2), Checks.log(y, s, 2));
            }
        }
        Checks.due("much has happened", x.replica(0, 0, 1) + x.replica(1, 0, 1) > 60, true);
    }
}
