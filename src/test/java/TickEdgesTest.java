/** The edges of promise 14, and of the Terms THE CLOCK, A TICK and MESSAGES. */
public final class TickEdgesTest {
    public static void main(String[] args) {
        Checks.runAll(TickEdgesTest.class);
    }

    // ---- Promise 14 ----

    /** Promise 14: "n ticks: the clock. IllegalArgumentException: n is not 1 .. 500."; THE CLOCK: "0 at first". */
    private static void promise14OneTo500Ticks() {
        int[] ticks = {1, 2, 499, 500, 250};
        int clock = 0;
        Weave x = Checks.with("T(1);");
        x.start(0, 0, 0);
        for (int n : Checks.outside(1, 500)) {
            Checks.dueThrown("tick " + n, IllegalArgumentException.class, () -> x.tick(n));
        }
        Checks.due("no tick has come", x.workflow(0, 0), 1);
        for (int n : ticks) {
            clock += n;
            Checks.due("tick " + n, x.tick(n), clock);
            Checks.dueThrown("tick 0", IllegalArgumentException.class, () -> x.tick(0));
            Checks.dueThrown("tick 501", IllegalArgumentException.class, () -> x.tick(501));
        }
    }

    /** Promise 14: each of the n ticks is a whole one: timers one behind the other, leases, messages. */
    private static void promise14EachTickIsAWholeOne() {
        for (int n = 1; n <= 8; n++) {
            Weave x = Checks.with("0:T(1);b=b+1;G0;");
            x.start(0, 0, 0);
            x.tick(n);
            Checks.due("b", x.query(0, 1), n);
            x = Checks.with("");
            Checks.tell(x, 5, "b=C5(0);");
            x.start(3, 5, 0);
            x.tick(n);
            Checks.due("generations", x.shard(0, 3) + x.shard(1, 3) + x.shard(2, 3) + x.shard(3, 3), 4 * n - 2);
            for (int s = 0; s < 4; s++) {
                x = Checks.with("b=C0(0);");
                x.start(s, 0, 0);
                x.tick(n);
                Checks.due("generations in shard " + s, x.shard(s, 3), n + 1);
            }
        }
    }

    /** Promise 14: what is due in the midst of many ticks comes in its own tick, though nothing came ahead of it. */
    private static void promise14ManyTicksAtOnce() {
        Weave x = Checks.with("0:T(100);b=b+1;G0;");
        x.start(0, 0, 0);
        x.tick(499);
        Checks.due("b at 499", x.query(0, 1), 4);
        x.tick(1);
        Checks.due("b at 500", x.query(0, 1), 5);
        Checks.due("fired in its own tick", x.event(0, 4, 1), 200);
        for (int until : new int[] {10, 11, 12, 100}) {
            x = Checks.with("b=A0(0);T(3);c=C1(0);d=J(c);T(1);");
            Checks.tell(x, 1, "T(4);");
            x.start(0, 0, 0);
            x.poll(0);
            x.tick(until);
            Checks.due("the lease ended in its own tick", Checks.record(x, 0, 0, 2), "0.15/0(2,12,0)");
            x.power(1, 0, false);
            x.power(1, 1, false);
            x.tick(20);
            x.finish(x.poll(0), 7);
            x.tick(50);
            Checks.due("it waits for its child", x.workflow(0, 0), 3);
            Checks.due("the message waits", x.shard(0, 4), 1);
            x.power(1, 1, true);
            x.tick(100);
            int clock = until + 20;
            Checks.due("its history", Checks.history(x, 0), "0(0,0)@0 1(0,0) 2(7,0) 4(" + (clock + 3) + ",0) 5("
                + (clock + 3) + ",0) 6(1,0) 7(0,0) 4(" + (clock + 56) + ",0) 5(" + (clock + 56) + ",0) 10(0,0)");
            Checks.due("its child's", Checks.history(x, 1),
                "0(1,0)@-1 4(" + (clock + 55) + ",0) 5(" + (clock + 55) + ",0) 10(0,0)");
        }
    }

    // ---- A TICK: timers and leases ----

    /** A TICK: TIMERS "whose tick is the clock or less": one that could not come in its tick comes in a later one. */
    private static void tickTimersOfEarlierTicks() {
        for (int late = 0; late <= 2; late++) {
            Weave x = Checks.with("T(3);E(1);");
            x.start(0, 0, 0);
            Checks.stop(x, 0);
            x.tick(2 + late);
            x.power(0, 1, true);
            Checks.due("it waits", x.workflow(0, 0), 1);
            x.tick(1);
            Checks.due("fired with the clock", Checks.history(x, 0), "0(0,0)@0 4(3,0) 5(" + (3 + late) + ",0) 10(1,0)");
        }
    }

    /** A TICK: "(one that waits for time again has its turn in the next tick". */
    private static void tickOneTurnForEach() {
        for (String text : new String[] {"0:T(0);b=b+1;G0;", "0:T(-5);b=b+1;G0;", "0:T(1);b=b+1;G0;"}) {
            Weave x = Checks.with(text);
            x.start(0, 0, 0);
            x.start(4, 0, 0);
            for (int i = 1; i <= 3; i++) {
                x.tick(1);
                Checks.due("b", x.query(0, 1) * 10 + x.query(4, 1), 11 * i);
            }
        }
    }

    /** A TICK: "TIMERS of its WORKFLOWS, by numbers ... then its LEASED TASKS, by WORKFLOWS' numbers". */
    private static void tickOrderInAShard() {
        Weave x = Checks.with("T(10);b=W;");
        Checks.tell(x, 1, "b=A0(0);");
        x.start(0, 1, 0);
        x.start(4, 0, 0);
        x.start(8, 1, 0);
        x.start(12, 0, 0);
        x.poll(0);
        x.poll(0);
        x.tick(9);
        int records = x.replica(0, 0, 1);
        x.tick(1);
        Checks.due("timers first, by numbers", Checks.record(x, 0, 0, records) + Checks.record(x, 0, 0, records + 1),
            "1.5/0(10,0,0)3.5/0(10,0,0)");
        Checks.due("then leases, by numbers", Checks.record(x, 0, 0, records + 2) + Checks.record(x, 0, 0, records + 3),
            "0.15/0(2,12,0)2.15/0(2,12,0)");
        Checks.due("records", x.replica(0, 0, 1), records + 4);
    }

    /** A TICK, FIRED not done at each byte: it "goes on with the next WORKFLOW", and that one comes a tick later. */
    private static void tickFiredNotDone() {
        for (int bytes = 0; bytes <= 17; bytes++) {
            Weave x = Checks.with("T(1);b=W;");
            x.start(0, 0, 0);
            x.start(4, 0, 0);
            x.fuse(0, 0, bytes);
            x.tick(1);
            Checks.due("workflow 0 with " + bytes, x.workflow(0, 0), bytes < 16 ? 1 : 2);
            Checks.due("workflow 4 with " + bytes, x.workflow(4, 0), bytes < 16 ? 2 : 1);
            x.tick(1);
            Checks.due("fired", x.event(0, 2, 1) * 10 + x.event(4, 2, 1), bytes < 16 ? 21 : 12);
        }
    }

    /** A TICK: "as long as it WORKS": without a leader no other timer of the shard comes, but other shards' do. */
    private static void tickTheShardStopsWorking() {
        for (int bytes = 0; bytes <= 32; bytes++) {
            Weave x = Checks.with("T(1);b=W;");
            x.start(0, 0, 0);
            x.start(4, 0, 0);
            x.start(1, 0, 0);
            x.power(0, 2, false);
            x.fuse(0, 1, bytes);
            x.tick(1);
            Checks.due("workflow 0 with " + bytes, x.workflow(0, 0), bytes < 16 ? 1 : 2);
            Checks.due("workflow 4 with " + bytes, x.workflow(4, 0), bytes < 32 ? 1 : 2);
            Checks.due("another shard's", x.workflow(1, 0), 2);
            Checks.due("leader", x.shard(0, 0), bytes < 32 ? -1 : 0);
        }
    }

    /** A TICK: LEASES that end with the leader in this tick's timers do not FAIL. */
    private static void tickNoLeaseIsLeftToFail() {
        Weave x = Checks.with("b=A0(0);");
        Checks.tell(x, 1, "T(10);b=W;");
        x.start(0, 0, 0);
        x.start(4, 1, 0);
        x.poll(0);
        x.fuse(0, 0, 0);
        x.tick(10);
        Checks.due("a new leader", x.shard(0, 0), 1);
        Checks.due("the timer waits", x.workflow(4, 0), 1);
        Checks.due("poll", x.poll(0), 2);
        Checks.due("tries", x.task(2, 2), 1);
    }

    /** A TICK: a LEASE whose TRIED is not done has ended all the same, by the leader's end. */
    private static void tickTriedNotDone() {
        for (int bytes = 0; bytes <= 16; bytes += 8) {
            Weave x = Checks.with("b=A0(0);");
            x.start(0, 0, 0);
            x.poll(0);
            x.fuse(0, 0, bytes);
            x.tick(10);
            Checks.due("leases", x.shard(0, 6), 0);
            Checks.due("poll with " + bytes, x.poll(0), bytes < 16 ? 2 : -1);
            x.tick(2);
            Checks.due("tries", x.task(bytes < 16 ? 2 : x.poll(0), 2), bytes < 16 ? 1 : 2);
        }
    }

    // ---- MESSAGES: START ----

    /** MESSAGES: "A START: to SHARD (that of the parent + PROGRAM) modulo 4", for each shard and each program. */
    private static void messagesShardOfAChild() {
        for (int s = 0; s < 4; s++) {
            for (int p = 0; p < 8; p++) {
                Weave x = new Weave();
                Checks.tell(x, p, "T(99);");
                int parent = (p + 1) % 8;
                Checks.tell(x, parent, "b=C" + p + "(77);T(99);");
                x.start(s, parent, 0);
                x.tick(1);
                int child = (s + p) % 4 + (p % 4 == 0 ? 4 : 0);
                Checks.due("child of shard " + s + " and program " + p, Checks.history(x, child),
                    "0(" + p + ",77)@" + (-1 - 64 * s) + " 4(100,0)");
                Checks.due("its parent", x.workflow(child, 6), s);
            }
        }
    }

    private static Weave crowd(int n, String childText) {
        Weave x = Checks.with("b=C1(5);c=J(b);E(c);");
        Checks.tell(x, 1, childText);
        for (int i = 0; i < n; i++) {
            x.start(1 + 4 * i, 1, 0);
        }
        x.start(0, 0, 0);
        return x;
    }

    /** MESSAGES: "a WORKFLOW begins there, if it has fewer than 16": 14, 15 and 16 of them. */
    private static void messagesFewerThan16() {
        for (int n = 14; n <= 16; n++) {
            Weave x = crowd(n, "b=W;");
            x.tick(1);
            Checks.due("workflows behind " + n, x.shard(1, 3), Math.min(16, n + 1));
            Checks.due("the parent", Checks.history(x, 0),
                n < 16 ? "0(0,0)@0 6(1,5)" : "0(0,0)@0 6(1,5) 7(0,-3) 10(-3,0)");
            Checks.due("messages", x.shard(0, 4), 0);
        }
    }

    /** MESSAGES: "and there is such a PROGRAM (the latest one told; it GOES ON at once)", told behind CHILD, too. */
    private static void messagesTheLatestProgram() {
        Weave x = Checks.with("b=C1(5);c=C2(6);d=W;");
        Checks.tell(x, 1, "E(1);");
        x.start(0, 0, 0);
        Checks.tell(x, 1, "a=a+1;E(a);");
        x.tick(1);
        Checks.due("the latest one", Checks.history(x, 1), "0(9,5)@-1 10(6,0)");
        Checks.due("no such program", Checks.history(x, 0), "0(0,0)@0 6(1,5) 6(2,6) 7(1,-3) 7(0,6)");
        Checks.tell(x, 2, "E(3);");
        x.tick(5);
        Checks.due("it comes too late", x.shard(2, 3), 0);
    }

    /** MESSAGES: "else EVENT 7 with -3 comes to the parent ... unless this has ended". */
    private static void messagesUnbornOfAnEndedParent() {
        Weave x = Checks.with("b=C3(5);E(4);");
        x.start(0, 0, 0);
        x.tick(1);
        Checks.due("nothing comes", Checks.history(x, 0), "0(0,0)@0 6(3,5) 10(4,0)");
        Checks.due("but it is gone", Checks.record(x, 0, 0, 3), "0.14/0(1,0,0)");
        Checks.due("messages", x.shard(0, 4), 0);
    }

    /** MESSAGES: a START of a parent that has ended begins all the same ("its children go on"). */
    private static void messagesChildOfAnEndedParent() {
        Weave x = Checks.with("b=C3(5);E(4);");
        Checks.tell(x, 3, "b=W;");
        x.start(0, 0, 0);
        x.tick(1);
        Checks.due("it begins", Checks.history(x, 3), "0(3,5)@-1");
    }

    /** MESSAGES: a START does "nothing, if one with that ORIGIN is there", though there are 16, or no more room. */
    private static void messagesStartOnlyOnce() {
        for (int n = 14; n <= 15; n++) {
            Weave x = crowd(n, "b=W;");
            x.fuse(0, 0, 9);
            x.tick(1);
            Checks.due("it has begun", x.shard(1, 3), n + 1);
            Checks.due("its GONE is not done", x.shard(0, 4), 1);
            x.tick(1);
            Checks.due("once", x.shard(1, 3), n + 1);
            Checks.due("the parent waits", Checks.history(x, 0), "0(0,0)@0 6(1,5)");
            Checks.due("it is gone", x.shard(0, 4), 0);
        }
    }

    /** MESSAGES: a START does nothing if "the parent has that child's EVENT 7", though there is such a PROGRAM now. */
    private static void messagesStartBehindItsEnd() {
        Weave x = Checks.with("b=C1(5);c=A0(0);");
        x.start(0, 0, 0);
        x.fuse(0, 0, 20);
        x.tick(1);
        Checks.due("EVENT 7 is done", Checks.history(x, 0), "0(0,0)@0 6(1,5) 1(0,0) 7(0,-3)");
        Checks.due("its GONE is not", x.shard(0, 4), 1);
        Checks.tell(x, 1, "b=W;");
        x.tick(1);
        Checks.due("no child", x.shard(1, 3), 0);
        Checks.due("no event", x.workflow(0, 2), 4);
        Checks.due("it is gone", x.shard(0, 4), 0);
    }

    /** A TICK: "if the EVENT (or STARTED) that it makes is not done, it stays, without GONE": STARTED at each byte. */
    private static void messagesStartedNotDone() {
        for (int bytes = 0; bytes <= 16; bytes++) {
            Weave x = crowd(0, "b=W;");
            x.fuse(1, 0, bytes);
            x.tick(1);
            Checks.due("workflows with " + bytes, x.shard(1, 3), bytes < 16 ? 0 : 1);
            Checks.due("messages", x.shard(0, 4), bytes < 16 ? 1 : 0);
            x.tick(1);
            Checks.due("workflows in the next tick", x.shard(1, 3), 1);
            Checks.due("messages", x.shard(0, 4), 0);
        }
    }

    /** A TICK: EVENT 7 with -3 that is not done stays, too, at each byte; GONE at those behind. */
    private static void messagesUnbornNotDone() {
        for (int bytes = 0; bytes <= 32; bytes++) {
            Weave x = Checks.with("b=C1(5);c=A0(0);");
            x.start(0, 0, 0);
            x.fuse(0, 0, bytes);
            x.tick(1);
            Checks.due("events with " + bytes, x.workflow(0, 2), bytes < 16 ? 3 : 4);
            Checks.due("messages", x.shard(0, 4), bytes < 32 ? 1 : 0);
            x.tick(1);
            Checks.due("events in the next tick", x.workflow(0, 2), 4);
            Checks.due("messages", x.shard(0, 4), 0);
        }
    }

    // ---- MESSAGES: SIGNAL and END ----

    /** MESSAGES: "A SIGNAL: EVENT 8 of the child, or parent, unless it has ended, is none". */
    private static void messagesSignalsToNone() {
        Weave x = Checks.with("b=C1(0);c=C2(0);S(b,6);S(c,7);d=W;");
        Checks.tell(x, 1, "S(-1,8);E(0);");
        x.start(0, 0, 0);
        x.tick(1);
        Checks.due("the child has ended", Checks.history(x, 1), "0(1,0)@-1 9(-1,8) 10(0,0)");
        Checks.due("no message", x.shard(0, 4) + x.shard(1, 4), 0);
        Checks.due("the parent", Checks.history(x, 0),
            "0(0,0)@0 6(1,0) 6(2,0) 9(0,6) 9(1,7) 7(1,-3) 8(8,0)@-66 10(0,0)");
        x = Checks.with("b=C1(0);");
        Checks.tell(x, 1, "S(-1,8);b=W;");
        x.start(0, 0, 0);
        x.tick(1);
        Checks.due("a parent that has ended", Checks.history(x, 0), "0(0,0)@0 6(1,0) 10(0,0)");
        Checks.due("no message", x.shard(1, 4), 0);
    }

    /** MESSAGES: a SIGNAL "it GOES ON if it waits for it", else it is there for a later W. */
    private static void messagesSignals() {
        Weave x = Checks.with("b=C1(0);S(b,6);S(b,7);c=W;");
        Checks.tell(x, 1, "b=W;T(5);c=W;d=W;");
        x.start(0, 0, 0);
        x.tick(1);
        Checks.due("the child", Checks.history(x, 1), "0(1,0)@-1 8(6,0)@-3 4(6,0) 8(7,0)@-4");
        Checks.due("signals that no W took", x.workflow(1, 5), 1);
        x.tick(5);
        Checks.due("c", x.query(1, 2), 7);
        Checks.due("it waits for another one", x.workflow(1, 0), 2);
    }

    /** MESSAGES: a SIGNAL comes once ("or has one with that ORIGIN"), whichever byte of its EVENT or GONE fails. */
    private static void messagesSignalsOnce() {
        for (int s = 0; s < 2; s++) {
            for (int bytes = 0; bytes <= 16; bytes++) {
                Weave x = Checks.with("b=C1(0);T(2);S(b,6);c=W;");
                Checks.tell(x, 1, "b=A0(0);");
                x.start(0, 0, 0);
                x.tick(1);
                x.fuse(s, 0, s == 0 ? 32 + bytes : bytes);
                x.tick(1);
                boolean done = bytes == 16;
                Checks.due("messages with " + bytes, x.shard(0, 4), done ? 0 : 1);
                Checks.due("events of the child", x.workflow(1, 2), s == 0 || done ? 3 : 2);
                x.tick(1);
                Checks.due("the child", Checks.history(x, 1), "0(1,0)@-1 1(0,0) 8(6,0)@-5");
                Checks.due("messages", x.shard(0, 4), 0);
            }
        }
    }

    /** MESSAGES: "An END: EVENT 7 of the parent, unless this has ended, or has that child's": once, at each byte. */
    private static void messagesEndsOnce() {
        for (int s = 0; s < 2; s++) {
            for (int bytes = 0; bytes <= 16; bytes++) {
                Weave x = Checks.with("b=C1(0);c=A0(0);");
                Checks.tell(x, 1, "T(1);E(6);");
                x.start(0, 0, 0);
                x.tick(1);
                x.fuse(s, 0, s == 1 ? 32 + bytes : bytes);
                x.tick(1);
                boolean done = bytes == 16;
                Checks.due("messages with " + bytes, x.shard(1, 4), done ? 0 : 1);
                Checks.due("events of the parent", x.workflow(0, 2), s == 1 || done ? 4 : 3);
                x.tick(1);
                Checks.due("the parent", Checks.history(x, 0), "0(0,0)@0 6(1,0) 1(0,0) 7(0,6)");
                Checks.due("messages", x.shard(1, 4), 0);
            }
        }
    }

    /** MESSAGES: an END to a parent that has ended does nothing, but is gone. */
    private static void messagesEndsToAnEndedParent() {
        Weave x = Checks.with("b=C1(0);");
        Checks.tell(x, 1, "E(6);");
        x.start(0, 0, 0);
        x.tick(1);
        Checks.due("the parent", Checks.history(x, 0), "0(0,0)@0 6(1,0) 10(0,0)");
        Checks.due("GONE", Checks.record(x, 1, 0, 2), "0.14/0(1,0,0)");
    }

    /** "with the EVENT's a": what a parent is told of ENDED, CANCELLED and OVER. */
    private static void messagesEndsOfEachKind() {
        String[] texts = {"E(a);", "a=5;", "0:G0;", "b=W;"};
        int[] values = {41, 0, -1, -2};
        for (int i = 0; i < 4; i++) {
            Weave x = Checks.with("b=C1(41);c=J(b);E(c);");
            Checks.tell(x, 1, texts[i]);
            x.start(0, 0, 0);
            x.tick(1);
            x.cancel(1);
            x.tick(1);
            Checks.due("the parent of " + texts[i], x.workflow(0, 1), values[i]);
        }
    }

    // ---- A TICK: turns of messages ----

    /** A TICK: "if the SHARD to which it goes WORKS ... else ... it stays ... and the next one has its turn". */
    private static void tickTheTargetDoesNotWork() {
        Weave x = Checks.with("b=C1(0);c=C2(0);S(b,6);S(c,7);d=W;");
        Checks.tell(x, 1, "b=W;c=W;");
        Checks.tell(x, 2, "b=W;c=W;");
        x.start(0, 0, 0);
        Checks.stop(x, 1);
        int records = x.replica(0, 0, 1);
        x.tick(4);
        Checks.due("two stay", x.shard(0, 4), 2);
        Checks.due("the others are gone, in their order",
            Checks.record(x, 0, 0, records) + Checks.record(x, 0, 0, records + 1),
            "0.14/0(2,0,0)0.14/0(4,0,0)");
        Checks.due("records", x.replica(0, 0, 1), records + 2);
        x.power(1, 1, true);
        Checks.due("no tick has come", x.shard(1, 3), 0);
        x.tick(1);
        Checks.due("both are done", Checks.history(x, 1), "0(1,0)@-1 8(6,0)@-4");
        Checks.due("none stays", x.shard(0, 4), 0);
    }

    /** A TICK: a START to a SHARD that does not WORK stays, though it has 16 workflows, or there is no such PROGRAM. */
    private static void tickAStartThatCanNotBegin() {
        for (int n = 0; n <= 16; n += 16) {
            Weave x = Checks.with("b=C1(5);c=J(b);E(c);");
            Checks.tell(x, 2, "b=W;");
            for (int i = 0; i < n; i++) {
                x.start(1 + 4 * i, 2, 0);
            }
            x.start(0, 0, 0);
            Checks.stop(x, 1);
            x.tick(3);
            Checks.due("it stays", x.shard(0, 4), 1);
            Checks.due("nothing comes to the parent", Checks.history(x, 0), "0(0,0)@0 6(1,5)");
            x.power(1, 1, true);
            x.tick(1);
            Checks.due("the parent", Checks.history(x, 0), "0(0,0)@0 6(1,5) 7(0,-3) 10(-3,0)");
        }
    }

    /** A TICK: a SIGNAL, and an END, to a parent whose SHARD does not WORK stay. */
    private static void tickTheParentsShardDoesNotWork() {
        Weave x = Checks.with("b=C1(0);c=W;d=J(b);E(d);");
        Checks.tell(x, 1, "T(2);S(-1,5);T(1);E(6);");
        x.start(0, 0, 0);
        x.tick(1);
        Checks.stop(x, 0);
        x.tick(2);
        Checks.due("a signal stays", x.shard(1, 4), 1);
        x.tick(3);
        Checks.due("an end stays", x.shard(1, 4), 2);
        Checks.due("the parent waits for a signal", x.workflow(0, 0), 2);
        int records = x.replica(1, 0, 1);
        x.power(0, 1, true);
        x.tick(1);
        Checks.due("both are gone", x.shard(1, 4), 0);
        Checks.due("records of GONE", x.replica(1, 0, 1), records + 2);
        Checks.due("the parent", Checks.history(x, 0), "0(0,0)@0 6(1,0) 8(5,0)@-68 7(0,6) 10(6,0)");
    }

    /** A TICK: "it is done (also if there is nothing to do)" only if the target WORKS. */
    private static void tickNothingToDoWaitsForTheTarget() {
        Weave x = Checks.with("b=C1(0);T(2);S(b,6);d=W;");
        Checks.tell(x, 1, "E(0);");
        x.start(0, 0, 0);
        x.tick(1);
        Checks.stop(x, 1);
        x.tick(1);
        Checks.due("a signal to one that has ended stays", x.shard(0, 4), 1);
        x.power(1, 1, true);
        x.tick(1);
        Checks.due("it is gone", x.shard(0, 4), 0);
    }

    /** A TICK: an END to a parent that has ended is nothing to do, but waits for that one's SHARD, too. */
    private static void tickAnEndWaitsForTheTarget() {
        Weave x = Checks.with("b=C1(0);");
        Checks.tell(x, 1, "T(2);E(6);");
        x.start(0, 0, 0);
        x.tick(1);
        Checks.stop(x, 0);
        x.tick(4);
        Checks.due("it stays", x.workflow(1, 0) * 10 + x.shard(1, 4), 41);
        x.power(0, 1, true);
        x.tick(1);
        Checks.due("it is gone", x.shard(1, 4), 0);
        Checks.due("the parent", Checks.history(x, 0), "0(0,0)@0 6(1,0) 10(0,0)");
    }

    /** A TICK: "for each SHARD in order that WORKS": a sender that does not work sends nothing. */
    private static void tickTheSenderDoesNotWork() {
        Weave x = Checks.with("b=C1(0);c=W;");
        Checks.tell(x, 1, "b=W;");
        x.start(0, 0, 0);
        Checks.stop(x, 0);
        x.tick(3);
        Checks.due("no child", x.shard(1, 3), 0);
        Checks.due("its outbox as it was", x.shard(0, 4), 1);
        x.power(0, 1, true);
        x.tick(1);
        Checks.due("a child", x.shard(1, 3), 1);
    }

    /** A TICK: "the MESSAGES that are in its OUTBOX when its turn comes": those of an earlier shard's turn, too. */
    private static void tickWhenItsTurnComes() {
        for (int s = 0; s < 4; s++) {
            Weave x = Checks.with("b=C1(0);c=W;");
            Checks.tell(x, 1, "S(-1,3);c=W;");
            x.start(s, 0, 0);
            x.tick(1);
            Checks.due("the child's signal of shard " + s, x.workflow(s, 2), s < 3 ? 4 : 2);
            x.tick(1);
            Checks.due("in the next tick", x.workflow(s, 2), 4);
        }
        Weave x = Checks.with("b=C0(0);c=W;");
        x.start(0, 0, 0);
        for (int i = 1; i <= 4; i++) {
            x.tick(1);
            Checks.due("one that came in its own turn waits", x.shard(0, 3) * 10 + x.shard(0, 4), 10 * (i + 1) + 1);
        }
    }

    /** A TICK: messages of timers and leases of this tick go in this one. */
    private static void tickMessagesOfItsTimers() {
        Weave x = Checks.with("T(1);b=C1(0);c=W;");
        Checks.tell(x, 1, "b=W;");
        x.start(3, 0, 0);
        x.tick(1);
        Checks.due("a child", x.shard(0, 3), 1);
    }

    /** A TICK: GONE that is not done: the message stays, "and the next one has its turn" under the new leader. */
    private static void tickGoneNotDone() {
        for (int bytes = 0; bytes <= 16; bytes++) {
            Weave x = Checks.with("b=C1(0);c=C2(0);d=W;");
            Checks.tell(x, 1, "b=W;");
            Checks.tell(x, 2, "b=W;");
            x.start(0, 0, 0);
            x.fuse(0, 0, bytes);
            x.tick(1);
            Checks.due("children", x.shard(1, 3) * 10 + x.shard(2, 3), 11);
            Checks.due("messages with " + bytes, x.shard(0, 4), 1);
            String log = Checks.log(x, 0, 2);
            Checks.due("the log", log, "0.0/0(0,0,0) 0.6/0(1,0,0) 0.6/0(2,0,0) "
                + (bytes < 16 ? "0.13/1(1,0,0) 0.14/1(2,0,0)" : "0.14/0(1,0,0) 0.13/1(1,0,0)"));
            x.tick(1);
            Checks.due("messages", x.shard(0, 4), 0);
            Checks.due("children", x.shard(1, 3) * 10 + x.shard(2, 3), 11);
        }
    }

    /** A TICK: "it is done ... then comes its GONE", though what its STARTED led to is given up, in its own SHARD. */
    private static void tickWhatAMessageLedToInItsOwnShard() {
        for (int bytes = 15; bytes <= 32; bytes++) {
            Weave x = Checks.with("b=C4(0);c=W;");
            Checks.tell(x, 4, "b=A0(0);");
            x.start(0, 0, 0);
            x.fuse(0, 0, bytes);
            x.tick(1);
            String ahead = "0.0/0(0,0,0) 0.6/0(4,0,0) ";
            Checks.due("the log with " + bytes, Checks.log(x, 0, 2), ahead + (bytes < 16 ? "0.13/1(1,0,0)"
                : bytes < 32 ? "1.0/0(4,0,-1) 0.13/1(1,0,0) 1.1/1(0,0,0) 0.14/1(1,0,0)"
                : "1.0/0(4,0,-1) 1.1/0(0,0,0) 0.13/1(1,0,0)"));
            Checks.due("messages", x.shard(0, 4), bytes < 16 || bytes == 32 ? 1 : 0);
            x.tick(1);
            Checks.due("messages and workflows", x.shard(0, 4) * 10 + x.shard(0, 3), 2);
        }
        Weave x = Checks.with("b=C4(0);c=W;");
        Checks.tell(x, 4, "b=A0(0);");
        x.start(0, 0, 0);
        x.power(0, 2, false);
        x.fuse(0, 1, 16);
        x.tick(1);
        Checks.due("it has begun, but its SHARD does not work", x.shard(0, 3) * 10 + x.shard(0, 0), 19);
        Checks.due("without GONE it stays", x.shard(0, 4), 1);
        x.power(0, 2, true);
        x.tick(1);
        Checks.due("messages and workflows", x.shard(0, 4) * 10 + x.shard(0, 3), 2);
    }

    /** A TICK: "then comes its GONE", though the SHARD to which it went does not WORK any more by what it led to. */
    private static void tickWhatAMessageLedToInAnotherShard() {
        for (int bytes = 15; bytes <= 32; bytes++) {
            Weave x = Checks.with("b=C1(0);c=W;");
            Checks.tell(x, 1, "b=A0(0);");
            x.start(0, 0, 0);
            x.power(1, 2, false);
            x.fuse(1, 1, bytes);
            x.tick(1);
            Checks.due("the target with " + bytes, x.shard(1, 0), bytes < 32 ? -1 : 0);
            Checks.due("workflows", x.shard(1, 3), bytes < 16 ? 0 : 1);
            Checks.due("messages", x.shard(0, 4), bytes < 16 ? 1 : 0);
        }
    }

    /** A TICK: "one by one, as long as it WORKS": a sender that stops working sends no more. */
    private static void tickTheSenderStopsWorking() {
        for (int bytes = 0; bytes <= 32; bytes += 4) {
            Weave x = Checks.with("b=C1(0);c=C2(0);d=W;");
            Checks.tell(x, 1, "b=W;");
            Checks.tell(x, 2, "b=W;");
            x.start(0, 0, 0);
            x.power(0, 2, false);
            x.fuse(0, 1, bytes);
            x.tick(1);
            Checks.due("children with " + bytes, x.shard(1, 3) * 10 + x.shard(2, 3), bytes < 16 ? 10 : 11);
            Checks.due("messages", x.shard(0, 4), bytes < 16 ? 2 : bytes < 32 ? 1 : 0);
            x.power(0, 2, true);
            x.tick(1);
            Checks.due("messages", x.shard(0, 4), 0);
            Checks.due("children", x.shard(1, 3) * 10 + x.shard(2, 3), 11);
        }
    }

    /** MESSAGES: "in the order of their RECORDS in the log", of several workflows. */
    private static void messagesInTheOrderOfTheirRecords() {
        Weave x = Checks.with("b=W;c=C1(b);d=W;");
        Checks.tell(x, 1, "b=W;");
        x.start(0, 0, 0);
        x.start(4, 0, 0);
        x.signal(1, 4, 50);
        x.signal(1, 0, 60);
        x.tick(1);
        Checks.due("the first", Checks.history(x, 1), "0(1,50)@-257");
        Checks.due("the second", Checks.history(x, 5), "0(1,60)@-1");
    }
}
