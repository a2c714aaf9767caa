/** Promises 9 to 13: poll, beat, finish, fail and task. */
public final class WorkerTest {
    public static void main(String[] args) {
        order();
        leases();
        beats();
        failures();
        tries();
        notDone();
        leasesEndWithTheLeader();
        Checks.end();
    }

    private static void order() {
        Weave x = Checks.with("0:b=A3(a);G0;");
        x.start(3, 0, 33);
        x.start(2, 0, 22);
        x.tick(1);
        x.start(0, 0, 10);
        x.start(6, 0, 66);
        for (int kind : new int[] {-1, 0, 2, 4, 9, 10, Integer.MIN_VALUE, Integer.MAX_VALUE}) {
            Checks.due("no task of kind " + kind, x.poll(kind), -1);
        }
        int[] workflows = {2, 3, 0, 6};
        for (int token = 1; token <= 4; token++) {
            Checks.due("poll", x.poll(3), token);
            Checks.due("its workflow", x.task(token, 0), workflows[token - 1]);
        }
        Checks.due("no more", x.poll(3), -1);
        Checks.due("finish", x.finish(2, 0), true);
        Checks.due("a token of its own", x.poll(3), 5);
        Checks.due("its workflow", x.task(5, 0), 3);
        x.power(2, 0, false);
        x.power(2, 1, false);
        Checks.due("not in a shard that does not work", x.poll(3), -1);
        x.power(2, 0, true);
        Checks.due("it works again", x.poll(3), 6);
        Checks.due("its workflow", x.task(6, 0), 2);
    }

    private static void leases() {
        Weave x = Checks.with("b=A0(a);E(b);");
        x.tick(5);
        x.start(1, 0, -77);
        Checks.due("tasks", x.shard(1, 5) * 10 + x.shard(1, 6), 10);
        Checks.due("poll", x.poll(0), 1);
        Checks.due("tasks and leases", x.shard(1, 5) * 10 + x.shard(1, 6), 11);
        int[] seen = {1, -77, 1, 15};
        for (int what = 0; what < 4; what++) {
            Checks.due("task(1, " + what + ")", x.task(1, what), seen[what]);
        }
        for (int what : new int[] {-1, 4, Integer.MIN_VALUE, Integer.MAX_VALUE}) {
            Checks.due("task(1, " + what + ")", x.task(1, what), -1);
        }
        for (int token : new int[] {0, -1, 2, Integer.MIN_VALUE, Integer.MAX_VALUE}) {
            Checks.due("task of " + token, x.task(token, 0), -1);
            Checks.due("beat of " + token, x.beat(token), false);
            Checks.due("finish of " + token, x.finish(token, 1), false);
            Checks.due("fail of " + token, x.fail(token), false);
        }
        Checks.due("its history", Checks.history(x, 1), "0(0,-77)@1 1(0,-77)");
        Checks.due("finish", x.finish(1, -8), true);
        Checks.due("its history", Checks.history(x, 1), "0(0,-77)@1 1(0,-77) 2(-8,0) 10(-8,0)");
        Checks.due("again", x.finish(1, -8), false);
        Checks.due("beat", x.beat(1), false);
        Checks.due("fail", x.fail(1), false);
        Checks.due("task", x.task(1, 2), -1);
        Checks.due("tasks", x.shard(1, 5) + x.shard(1, 6), 0);
    }

    private static void beats() {
        Weave x = Checks.with("b=A0(a);E(b);");
        x.start(0, 0, 0);
        x.poll(0);
        x.tick(9);
        Checks.due("beat", x.beat(1), true);
        Checks.due("until", x.task(1, 3), 19);
        x.tick(9);
        Checks.due("it has its lease", x.task(1, 3), 19);
        x.tick(1);
        Checks.due("the lease is over", x.task(1, 3), -1);
        Checks.due("beat", x.beat(1), false);
        Checks.due("finish", x.finish(1, 1), false);
        Checks.due("it failed", Checks.record(x, 0, 0, 2), "0.15/0(2,21,0)");
        Checks.due("not yet", x.poll(0), -1);
        x.tick(1);
        Checks.due("not yet", x.poll(0), -1);
        x.tick(1);
        Checks.due("poll", x.poll(0), 2);
        Checks.due("tries", x.task(2, 2), 2);
    }

    private static void failures() {
        Weave x = Checks.with("b=A0(a);c=A1(b);E(c);");
        x.tick(1);
        x.start(0, 0, 4);
        int[] waits = {2, 4, 8};
        for (int token = 1; token <= 3; token++) {
            Checks.due("poll", x.poll(0), token);
            Checks.due("tries", x.task(token, 2), token);
            Checks.due("fail", x.fail(token), true);
            Checks.due("its lease is over", x.task(token, 0), -1);
            Checks.due("again", x.fail(token), false);
            Checks.due("tasks and leases", x.shard(0, 5) * 10 + x.shard(0, 6), 10);
            x.tick(waits[token - 1] - 1);
            Checks.due("it can't be had before", x.poll(0), -1);
            x.tick(1);
        }
        Checks.due("poll", x.poll(0), 4);
        Checks.due("tries", x.task(4, 2), 4);
        Checks.due("fail", x.fail(4), true);
        Checks.due("given up, it goes on", Checks.history(x, 0), "0(0,4)@0 1(0,4) 3(-1,0) 1(1,-1)");
        Checks.due("b", x.query(0, 1), -1);
        Checks.due("the next one", x.poll(1), 5);
        Checks.due("its tries", x.task(5, 2), 1);
        Checks.due("the log", Checks.log(x, 0, 2),
            "0.0/0(0,4,0) 0.1/0(0,4,0) 0.15/0(2,3,0) 0.15/0(3,7,0) 0.15/0(4,15,0) 0.3/0(-1,0,0) 0.1/0(1,-1,0)");
    }

    /** One that failed stands behind those that have been ready longer. */
    private static void tries() {
        Weave x = Checks.with("0:b=A0(a);G0;");
        x.start(0, 0, 0);
        x.fail(x.poll(0));
        x.tick(1);
        x.start(1, 0, 0);
        x.tick(2);
        x.start(2, 0, 0);
        int[] workflows = {1, 0, 2};
        for (int i = 0; i < 3; i++) {
            Checks.due("poll", x.poll(0), i + 2);
            Checks.due("its workflow", x.task(i + 2, 0), workflows[i]);
        }
    }

    private static void notDone() {
        Weave x = Checks.with("b=A0(a);E(b);");
        x.start(0, 0, 0);
        x.poll(0);
        x.fuse(0, 0, 5);
        Checks.due("finish", x.finish(1, 9), false);
        Checks.due("it waits still", Checks.history(x, 0), "0(0,0)@0 1(0,0)");
        Checks.due("its token has no lease", x.finish(1, 9), false);
        Checks.due("poll", x.poll(0), 2);
        x.power(0, 0, true);
        x.fuse(0, 1, 15);
        Checks.due("fail", x.fail(2), false);
        Checks.due("its token has no lease", x.task(2, 2), -1);
        Checks.due("poll", x.poll(0), 3);
        Checks.due("it has not failed", x.task(3, 2), 1);
        x.power(0, 1, true);
        x.fuse(0, x.shard(0, 0), 16);
        Checks.due("fail", x.fail(3), true);
        x.tick(2);
        Checks.due("poll", x.poll(0), 4);
        Checks.due("it has failed", x.task(4, 2), 2);
        x.power(0, 0, true);
        x.fuse(0, x.shard(0, 0), 16);
        Checks.due("finish, and the leader goes down behind that", x.finish(4, 9), true);
        Checks.due("its end under another leader", x.workflow(0, 1), 9);
    }

    private static void leasesEndWithTheLeader() {
        Weave x = Checks.with("b=A0(a);E(b);");
        x.start(0, 0, 0);
        x.start(4, 0, 0);
        x.fail(x.poll(0));
        x.poll(0);
        Checks.due("tasks and leases", x.shard(0, 5) * 10 + x.shard(0, 6), 21);
        x.power(0, 0, false);
        Checks.due("tasks and leases", x.shard(0, 5) * 10 + x.shard(0, 6), 20);
        Checks.due("beat", x.beat(2), false);
        Checks.due("poll", x.poll(0), 3);
        Checks.due("its workflow", x.task(3, 0), 4);
        Checks.due("the other one is ready later", x.poll(0), -1);
        x.power(0, 1, false);
        Checks.due("tasks as it was, no leases", x.shard(0, 5) * 10 + x.shard(0, 6), 20);
        x.tick(5);
        x.power(0, 0, true);
        Checks.due("poll", x.poll(0), 4);
        Checks.due("both are ready since the clock", x.task(4, 0), 0);
        Checks.due("with the tries of its TRIED", x.task(4, 2), 2);
        Checks.due("until", x.task(4, 3), 15);
    }
}
