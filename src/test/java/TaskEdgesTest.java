/** The edges of promises 9 to 13, and of the Term TASKS. */
public final class TaskEdgesTest {
    private static final int MAX = Integer.MAX_VALUE;
    private static final int MIN = Integer.MIN_VALUE;

    public static void main(String[] args) {
        Checks.runAll(TaskEdgesTest.class);
    }

    /** Workflow 0 waits for work of KIND 0 since tick 0. */
    private static Weave oneTask() {
        Weave x = Checks.with("b=A0(6);c=A1(b);E(c);");
        x.start(0, 0, 0);
        return x;
    }

    /** Fails a task so often, with its READY tick reached behind each; the clock behind them. */
    private static int failed(Weave x, int times) {
        int clock = 0;
        for (int i = 0; i < times; i++) {
            Checks.due("fail", x.fail(x.poll(0)), true);
            clock = x.tick(2 << i);
        }
        return clock;
    }

    // ---- Promise 9 ----

    /** Promise 9: "a TASK of a KIND"; KINDS are 0 .. 9. */
    private static void promise9Kinds() {
        for (int kind = 0; kind <= 9; kind++) {
            Weave x = Checks.with("b=A" + kind + "(1);");
            x.start(0, 0, 0);
            for (int other = -2; other <= 12; other++) {
                if (other != kind) {
                    Checks.due("poll " + other + " for " + kind, x.poll(other), -1);
                }
            }
            for (int other : new int[] {MIN, MAX, kind + 256, kind + 16, kind - 256}) {
                Checks.due("poll " + other + " for " + kind, x.poll(other), -1);
            }
            Checks.due("poll " + kind, x.poll(kind), 1);
            Checks.due("it is leased", x.poll(kind), -1);
        }
    }

    /** Promise 9: "READY since the clock's tick or earlier": one tick ahead of it, at it, and behind it. */
    private static void promise9ReadySince() {
        for (int later = 1; later <= 3; later++) {
            Weave x = oneTask();
            Checks.due("ready since this very tick", x.poll(0), 1);
            x.fail(1);
            Checks.due("the tick that it fails in", x.poll(0), -1);
            x.tick(later);
            Checks.due("poll " + later + " ticks later", x.poll(0), later < 2 ? -1 : 2);
        }
    }

    /** Promise 9: "that which is so longest", though its workflow's number is higher. */
    private static void promise9TheLongest() {
        Weave x = Checks.with("T(a);b=A0(0);");
        x.start(0, 0, 3);
        x.start(1, 0, 2);
        x.start(2, 0, 1);
        x.start(3, 0, 2);
        x.tick(4);
        int[] due = {2, 1, 3, 0};
        for (int token = 1; token <= 4; token++) {
            Checks.due("poll", x.poll(0), token);
            Checks.due("its workflow", x.task(token, 0), due[token - 1]);
        }
        Checks.due("no more", x.poll(0), -1);
    }

    /** Promise 9: "of several that of the least WORKFLOW", over all shards. */
    private static void promise9TheLeastWorkflow() {
        Weave x = Checks.with("b=A0(0);");
        int[] requests = {7, 3, 2, 6, 5, 1, 4, 0};
        for (int request : requests) {
            x.start(request, 0, 0);
        }
        for (int token = 1; token <= 8; token++) {
            Checks.due("poll", x.poll(0), token);
            Checks.due("its workflow", x.task(token, 0), token - 1);
        }
    }

    /** Promise 9: a TASK that has failed is READY since its later tick: of two it comes behind, or as the least. */
    private static void promise9ReadySinceALaterTick() {
        for (int other = 1; other <= 3; other++) {
            Weave x = Checks.with("T(a);b=A0(0);");
            Checks.tell(x, 1, "b=A0(0);");
            x.start(0, 1, 0);
            x.start(1, 0, other);
            x.fail(x.poll(0));
            x.tick(4);
            x.poll(0);
            Checks.due("ready since 2, and since " + other, x.task(2, 0), other < 2 ? 1 : 0);
        }
    }

    /** Promise 9: "in SHARDS that WORK". */
    private static void promise9InShardsThatWork() {
        Weave x = Checks.with("b=A0(0);");
        x.start(0, 0, 0);
        x.start(1, 0, 0);
        Checks.stop(x, 0);
        Checks.due("poll", x.poll(0), 1);
        Checks.due("its workflow", x.task(1, 0), 1);
        Checks.due("no more", x.poll(0), -1);
        x.power(0, 1, true);
        Checks.due("poll", x.poll(0), 2);
        Checks.due("its workflow", x.task(2, 0), 0);
    }

    /** TASKS: "a TOKEN (1, 2, .. as they are given)": one that is asked for in vain is none. */
    private static void tasksTokens() {
        Weave x = Checks.with("0:b=A0(0);G0;");
        Checks.due("no task", x.poll(0), -1);
        x.start(0, 0, 0);
        Checks.due("no such kind", x.poll(1), -1);
        for (int token = 1; token <= 5; token++) {
            Checks.due("poll", x.poll(0), token);
            Checks.due("no more", x.poll(0), -1);
            Checks.due("finish", x.finish(token, 0), true);
        }
        x.power(0, 0, false);
        Checks.due("under another leader", x.poll(0), 6);
    }

    /** Promise 9: "LEASED until the clock + 10", A TICK: "whose tick is the clock or less FAIL": 9, 10 and 11 ticks. */
    private static void promise9LeasedForTenTicks() {
        for (int later = 9; later <= 11; later++) {
            Weave x = oneTask();
            x.tick(5);
            Checks.due("poll", x.poll(0), 1);
            Checks.due("until", x.task(1, 3), 15);
            x.tick(later);
            boolean leased = later < 10;
            Checks.due("until, " + later + " ticks later", x.task(1, 3), leased ? 15 : -1);
            Checks.due("leases", x.shard(0, 6), leased ? 1 : 0);
            Checks.due("records", x.replica(0, 0, 1), leased ? 2 : 3);
            if (!leased) {
                Checks.due("the log", Checks.record(x, 0, 0, 2), "0.15/0(2,17,0)");
            }
        }
    }

    // ---- Promise 10 ----

    /** Promise 10: "goes on until the clock + 10": a beat in its last tick, and one that comes too late. */
    private static void promise10Beats() {
        for (int beatAt : new int[] {0, 1, 9}) {
            Weave x = oneTask();
            x.poll(0);
            if (beatAt > 0) {
                x.tick(beatAt);
            }
            Checks.due("beat at " + beatAt, x.beat(1), true);
            Checks.due("until", x.task(1, 3), beatAt + 10);
            x.tick(9);
            Checks.due("9 ticks later", x.task(1, 3), beatAt + 10);
            x.tick(1);
            Checks.due("10 ticks later", x.task(1, 3), -1);
            Checks.due("beat", x.beat(1), false);
        }
        Weave x = oneTask();
        x.poll(0);
        x.tick(10);
        Checks.due("too late", x.beat(1), false);
        Checks.due("leases", x.shard(0, 6), 0);
        Checks.due("records", x.replica(0, 0, 1), 3);
    }

    /** Promises 10 to 13: a TOKEN that has no LEASE (any more). */
    private static void promise10To13NoLease() {
        Weave x = oneTask();
        x.start(4, 0, 0);
        x.start(8, 0, 0);
        x.start(12, 0, 0);
        x.start(16, 0, 0);
        for (int token = 1; token <= 4; token++) {
            Checks.due("poll", x.poll(0), token);
        }
        x.finish(1, 0);
        x.fail(2);
        x.cancel(8);
        int records = x.replica(0, 0, 1);
        for (int token : new int[] {MIN, -4, -1, 0, 1, 2, 3, 5, 6, 260, MAX}) {
            Checks.due("beat " + token, x.beat(token), false);
            Checks.due("finish " + token, x.finish(token, 1), false);
            Checks.due("fail " + token, x.fail(token), false);
            for (int what = 0; what < 4; what++) {
                Checks.due("task " + token, x.task(token, what), -1);
            }
        }
        Checks.due("records", x.replica(0, 0, 1), records);
        Checks.due("one that has its lease", x.task(4, 0), 12);
        x.tick(10);
        Checks.due("none any more", x.beat(4), false);
        Checks.due("none any more", x.finish(4, 0), false);
        Checks.due("none any more", x.fail(4), false);
        Checks.due("none any more", x.task(4, 0), -1);
    }

    /** A RECORD IS DONE: "the SHARD has no LEADER any more: its LEASES end"; a TOKEN is not had back. */
    private static void promise10To13TheLeaderGoesDown() {
        for (int r = 0; r < 3; r++) {
            Weave x = oneTask();
            x.start(1, 0, 0);
            x.poll(0);
            x.poll(0);
            x.power(0, r, false);
            boolean leased = r > 0;
            Checks.due("beat", x.beat(1), leased);
            Checks.due("task", x.task(1, 0), leased ? 0 : -1);
            Checks.due("leases", x.shard(0, 6), leased ? 1 : 0);
            Checks.due("tasks", x.shard(0, 5), 1);
            Checks.due("another shard's", x.beat(2), true);
            Checks.due("finish", x.finish(1, 3), leased);
            Checks.due("fail", x.fail(1), false);
        }
        Weave x = oneTask();
        x.poll(0);
        Checks.stop(x, 0);
        Checks.due("leases without a leader", x.shard(0, 6), 0);
        Checks.due("tasks without a leader", x.shard(0, 5), 1);
        Checks.due("beat", x.beat(1), false);
        Checks.due("task", x.task(1, 0), -1);
        x.power(0, 1, true);
        Checks.due("beat", x.beat(1), false);
        Checks.due("poll", x.poll(0), 2);
    }

    // ---- Promise 11 ----

    /** Promise 11: EVENT 2 with any value. */
    private static void promise11Values() {
        for (int value : new int[] {MIN, -3, -1, 0, 1, MAX}) {
            Weave x = oneTask();
            Checks.due("finish", x.finish(x.poll(0), value), true);
            Checks.due("its history", Checks.history(x, 0), "0(0,0)@0 1(0,6) 2(" + value + ",0) 1(1," + value + ")");
            Checks.due("b", x.query(0, 1), value);
        }
    }

    /** Promise 11: "false if ... that is not done", at each byte of the leader's, also of OVER in its place. */
    private static void promise11NotDone() {
        for (int bytes = 0; bytes <= 17; bytes++) {
            Weave x = oneTask();
            x.poll(0);
            x.fuse(0, 0, bytes);
            Checks.due("finish with " + bytes, x.finish(1, 5), bytes >= 16);
            Checks.due("b", x.query(0, 1), bytes >= 16 ? 5 : 0);
            Checks.due("again", x.finish(1, 5), false);
            Checks.due("poll", x.poll(0), bytes >= 16 ? -1 : 2);
        }
        Weave x = oneTask();
        for (int i = 0; i < 57; i++) {
            x.signal(i, 0, i);
        }
        x.poll(0);
        x.fuse(0, 0, 15);
        Checks.due("OVER is not done", x.finish(1, 5), false);
        Checks.due("events", x.workflow(0, 2), 59);
        Checks.due("OVER is done", x.finish(x.poll(0), 5), true);
        Checks.due("events", x.workflow(0, 2), 60);
    }

    /** Promises 11 and 12: the work is done, or given up: its TOKEN has no LEASE any more, whatever comes behind. */
    private static void promise11And12TheTaskIsNoMore() {
        for (String behind : new String[] {"c=W;", "T(50);", "c=C1(0);c=J(c);", "c=A0(0);", ""}) {
            for (int fails = 0; fails <= 4; fails += 4) {
                Weave x = Checks.with("b=A0(0);" + behind);
                x.start(0, 0, 0);
                failed(x, fails);
                int token = fails == 0 ? x.poll(0) : 4;
                Checks.due("finish", fails > 0 || x.finish(token, 1), true);
                int tasks = behind.startsWith("c=A") ? 1 : 0;
                Checks.due("tasks and leases ahead of " + behind, x.shard(0, 5) * 10 + x.shard(0, 6), tasks * 10);
                Checks.due("beat", x.beat(token), false);
                Checks.due("finish", x.finish(token, 2), false);
                Checks.due("fail", x.fail(token), false);
                Checks.due("task", x.task(token, 0), -1);
                x.tick(12);
                Checks.due("no TRIED", Checks.log(x, 0, 0).split("\\.15/").length, Math.min(fails, 3) + 1);
            }
        }
    }

    /** A RECORD IS DONE: "what a call's RECORD led to may be given up, the call is told done all the same". */
    private static void promise11WhatItLedTo() {
        for (int bytes = 16; bytes <= 32; bytes++) {
            Weave x = oneTask();
            x.poll(0);
            x.power(0, 2, false);
            x.fuse(0, 1, bytes);
            Checks.due("finish with " + bytes, x.finish(1, 5), true);
            Checks.due("events", x.workflow(0, 2), bytes < 32 ? 3 : 4);
            Checks.due("leader", x.shard(0, 0), bytes < 32 ? -1 : 0);
            Checks.due("tasks", x.shard(0, 5), bytes < 32 ? 0 : 1);
        }
    }

    // ---- Promise 12 ----

    /** TASKS: "TRIES (1 at first)", "READY since the clock + 2^(TRIES - 1) (it can't be had before): a TRIED". */
    private static void tasksTries() {
        Weave x = oneTask();
        int clock = 0;
        for (int tries = 1; tries <= 3; tries++) {
            Checks.due("poll", x.poll(0), tries);
            Checks.due("tries", x.task(tries, 2), tries);
            Checks.due("fail", x.fail(tries), true);
            int wait = 1 << tries;
            Checks.due("TRIED", Checks.record(x, 0, 0, 1 + tries),
                "0.15/0(" + (tries + 1) + "," + (clock + wait) + ",0)");
            Checks.due("at once", x.poll(0), -1);
            Checks.due("tasks and leases", x.shard(0, 5) * 10 + x.shard(0, 6), 10);
            Checks.due("events", x.workflow(0, 2), 2);
            clock = x.tick(wait - 1);
            Checks.due("one tick too early", x.poll(0), -1);
            clock = x.tick(1);
        }
        Checks.due("poll", x.poll(0), 4);
        Checks.due("tries", x.task(4, 2), 4);
    }

    /** TASKS: "with 5 EVENT 3 comes (and it GOES ON)": the third failure gives another try, the fourth none. */
    private static void tasksGivenUpWithTheFourthFailure() {
        Weave x = oneTask();
        failed(x, 3);
        Checks.due("events", x.workflow(0, 2), 2);
        Checks.due("the fourth", x.fail(x.poll(0)), true);
        Checks.due("its history", Checks.history(x, 0), "0(0,0)@0 1(0,6) 3(-1,0) 1(1,-1)");
        Checks.due("b", x.query(0, 1), -1);
        Checks.due("no TRIED", Checks.record(x, 0, 0, 5), "0.3/0(-1,0,0)");
        Checks.due("poll", x.poll(1), 5);
        Checks.due("the next one's tries", x.task(5, 2), 1);
    }

    /** TASKS: a LEASE that a tick ends FAILS as fail() does. */
    private static void tasksFailByATick() {
        Weave x = oneTask();
        int[] ready = {12, 26, 44};
        for (int tries = 1; tries <= 3; tries++) {
            Checks.due("poll", x.poll(0), tries);
            x.tick(10);
            Checks.due("TRIED", Checks.record(x, 0, 0, 1 + tries),
                "0.15/0(" + (tries + 1) + "," + ready[tries - 1] + ",0)");
            x.tick(1 << tries);
        }
        Checks.due("poll", x.poll(0), 4);
        x.tick(9);
        Checks.due("events", x.workflow(0, 2), 2);
        x.tick(1);
        Checks.due("its history", Checks.history(x, 0), "0(0,0)@0 1(0,6) 3(-1,0) 1(1,-1)");
    }

    /** Promise 12: "false if ... its RECORD is not done", of TRIED and of EVENT 3, at each byte. */
    private static void promise12NotDone() {
        for (int before = 0; before <= 3; before += 3) {
            for (int bytes = 0; bytes <= 17; bytes++) {
                Weave x = oneTask();
                failed(x, before);
                x.poll(0);
                x.fuse(0, 0, bytes);
                Checks.due("fail with " + bytes, x.fail(before + 1), bytes >= 16);
                Checks.due("tries of a task that has not failed", bytes >= 16 ? 1 : x.task(x.poll(0), 2),
                    bytes >= 16 ? 1 : before + 1);
                Checks.due("events", x.workflow(0, 2), bytes >= 16 && before == 3 ? 4 : 2);
                x.tick(8);
                Checks.due("once", x.fail(before + 1), false);
            }
        }
    }

    // ---- Promise 13 ----

    /** Promise 13: "what 0: its WORKFLOW, 1: X, 2: TRIES, 3: the tick"; "NONE ... for another what". */
    private static void promise13What() {
        Weave x = Checks.with("b=A0(a);");
        x.tick(3);
        x.start(7, 0, MIN);
        x.poll(0);
        x.fail(1);
        x.tick(2);
        x.poll(0);
        int[] want = {3, MIN, 2, 15};
        for (int what = 0; what < 4; what++) {
            Checks.due("task(2, " + what + ")", x.task(2, what), want[what]);
        }
        for (int what : Checks.outside(0, 3)) {
            Checks.due("task(2, " + what + ")", x.task(2, what), -1);
        }
    }
}
