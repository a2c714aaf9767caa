import java.util.NoSuchElementException;

/** The edges of promises 5 to 8, and of the Terms WORKFLOWS and EVENTS. */
public final class WorkflowEdgesTest {
    private static final int MAX = Integer.MAX_VALUE;
    private static final int MIN = Integer.MIN_VALUE;

    public static void main(String[] args) {
        Checks.runAll(WorkflowEdgesTest.class);
    }

    // ---- WORKFLOWS ----

    /** WORKFLOWS: "the n-th (0 .. 15) of SHARD s, by their STARTED, has the number s + 4 * n". */
    private static void workflowsNumbers() {
        Weave x = Checks.with("b=W;");
        for (int n = 0; n < 16; n++) {
            for (int s = 3; s >= 0; s--) {
                Checks.due("ahead of it", x.workflow(s + 4 * n, 2), -1);
                Checks.due("workflow " + n + " of " + s, x.start(400 * n + s, 0, n), s + 4 * n);
                Checks.due("its argument", x.event(s + 4 * n, 0, 2), n);
            }
        }
        for (int w : Checks.outside(0, 63)) {
            Checks.due("no workflow " + w, x.workflow(w, 0), -1);
        }
        Checks.due("the last one", x.workflow(63, 0), 2);
        for (int w = 0; w < 64; w++) {
            Checks.due("a of workflow " + w, x.query(w, 0), w / 4);
        }
        Checks.stop(x, 1);
        for (int w = 0; w < 64; w++) {
            int one = w;
            if (w % 4 == 1) {
                Checks.dueThrown("a of workflow " + w, IllegalStateException.class, () -> x.query(one, 0));
            } else {
                Checks.due("a of workflow " + w, x.query(w, 0), w / 4);
            }
        }
    }

    /** Promise 5: "NONE if ... the SHARD has 16 WORKFLOWS"; those that have ended and children count. */
    private static void promise5SixteenWorkflows() {
        Weave x = Checks.with("E(1);");
        Checks.tell(x, 1, "b=C0(0);");
        Checks.due("a parent", x.start(2, 1, 0), 2);
        x.tick(1);
        Checks.due("and its child", x.shard(2, 3), 2);
        for (int n = 2; n < 16; n++) {
            Checks.due("workflow " + n, x.start(10 + 4 * n, 0, 0), 2 + 4 * n);
        }
        int records = x.replica(2, 0, 1);
        Checks.due("the seventeenth", x.start(1002, 0, 0), -1);
        Checks.due("workflows", x.shard(2, 3), 16);
        Checks.due("records", x.replica(2, 0, 1), records);
        Checks.due("one that there is", x.start(18, 0, 0), 10);
        Checks.due("another shard", x.start(3, 0, 0), 3);
    }

    /** WORKFLOWS: "an ARGUMENT; at its beginning LOCAL a is that, the others are 0". */
    private static void workflowsLocalsAtTheBeginning() {
        for (int argument : new int[] {MIN, -1, 0, 1, MAX}) {
            Weave x = Checks.with("T(5);");
            x.start(0, 0, argument);
            Checks.due("a", x.query(0, 0), argument);
            for (int v = 1; v < 8; v++) {
                Checks.due("local " + v, x.query(0, v), 0);
            }
        }
    }

    /** EVENTS, STARTED: "PROGRAM p + 8 * how many good ones had been told as p ahead of its own". */
    private static void eventsStartedTellsTheProgram() {
        Weave x = new Weave();
        for (int version = 0; version < 4; version++) {
            Checks.tell(x, 7, "E(" + version + ");");
            Checks.put(x, "E(9)");
            Checks.dueThrown("a bad one", IllegalArgumentException.class, () -> x.program(7));
            Checks.tell(x, 0, "");
            x.start(4 * version, 7, -5);
            Checks.due("the history", Checks.history(x, 4 * version),
                "0(" + (7 + 8 * version) + ",-5)@" + 4 * version + " 10(" + version + ",0)");
            Checks.due("the program", x.workflow(4 * version, 3), 7);
        }
    }

    /** EVENTS, ORIGIN: "a client's request; or, from the k-th EVENT ... of WORKFLOW w, -1 - (64 * w + k)". */
    private static void eventsOrigins() {
        Weave x = Checks.with("b=C1(1);c=C1(2);d=W;S(c,5);S(b,6);d=W;");
        Checks.tell(x, 1, "d=A0(0);");
        Checks.tell(x, 2, "");
        for (int n = 0; n < 15; n++) {
            x.start(3 + 4 * n, 2, 0);
        }
        Checks.due("workflow 63", x.start(MAX, 0, 0), 63);
        x.signal(0, 63, 9);
        x.tick(1);
        Checks.due("workflow 63", Checks.history(x, 63), "0(0,0)@2147483647 6(1,1) 6(1,2) 8(9,0)@0 9(1,5) 9(0,6)");
        Checks.due("its child 0", Checks.history(x, 0), "0(1,1)@-4033 1(0,0) 8(6,0)@-4038");
        Checks.due("its child 1", Checks.history(x, 4), "0(1,2)@-4034 1(0,0) 8(5,0)@-4037");
        Checks.due("c of SIGNAL's record", Checks.record(x, 0, 0, 5), "0.8/0(6,0,-4038)");
    }

    // ---- EVENTS: the sixtieth ----

    /** Workflow 0 of program 0, with so many signals. */
    private static Weave piled(int signals, String text) {
        Weave x = Checks.with(text);
        x.start(0, 0, 0);
        for (int i = 0; i < signals; i++) {
            Checks.due("signal " + i, x.signal(1000 + i, 0, i), true);
        }
        return x;
    }

    private static String event(Weave x, int k) {
        return x.event(0, k, 0) + "(" + x.event(0, k, 1) + "," + x.event(0, k, 2) + ")@" + x.event(0, k, 3);
    }

    private static void dueOver(Weave x) {
        Checks.due("events", x.workflow(0, 2), 60);
        Checks.due("the sixtieth", event(x, 59), "12(-1,0)@0");
        Checks.due("it has ended", x.workflow(0, 0), 4);
        Checks.due("with", x.workflow(0, 1), -1);
        Checks.dueThrown("there is no more", NoSuchElementException.class, () -> x.event(0, 60, 0));
        String log = Checks.log(x, 0, 0);
        Checks.due("its record", log.contains(" 0.12/0(-1,0,0)"), true);
    }

    /** A step behind a RESULT: its event is the one behind 3 others and the signals. */
    private static Weave behindResult(int signals, String steps) {
        Weave x = piled(signals, "c=5;b=A0(0);" + steps);
        Checks.due("finish", x.finish(x.poll(0), 4), true);
        return x;
    }

    /** EVENTS: WORK as the fifty-ninth, and OVER instead of it as the sixtieth: no TASK. */
    private static void eventsSixtiethWork() {
        Weave x = behindResult(55, "c=A1(6);");
        Checks.due("the fifty-ninth", event(x, 58), "1(1,6)@0");
        Checks.due("tasks", x.shard(0, 5), 1);
        x = behindResult(56, "c=A1(6);");
        dueOver(x);
        Checks.due("tasks", x.shard(0, 5), 0);
        Checks.due("poll", x.poll(1), -1);
    }

    /** EVENTS: TIMER. */
    private static void eventsSixtiethTimer() {
        Weave x = behindResult(55, "T(6);");
        Checks.due("the fifty-ninth", event(x, 58), "4(6,0)@0");
        Checks.due("it waits", x.workflow(0, 0), 1);
        x = behindResult(56, "T(6);");
        dueOver(x);
        x.tick(20);
        dueOver(x);
    }

    /** EVENTS: CHILD; no child, no message, and the LOCAL is not set. */
    private static void eventsSixtiethChild() {
        Weave x = behindResult(55, "c=C1(6);d=W;T(1);");
        Checks.due("the fifty-ninth", event(x, 58), "6(1,6)@0");
        Checks.due("children and messages", x.workflow(0, 4) * 10 + x.shard(0, 4), 11);
        Checks.due("c", x.query(0, 2), 0);
        x = behindResult(56, "c=C1(6);d=W;T(1);");
        dueOver(x);
        Checks.due("children and messages", x.workflow(0, 4) * 10 + x.shard(0, 4), 0);
        Checks.due("c", x.query(0, 2), 5);
    }

    /** EVENTS: SENT; no message. */
    private static void eventsSixtiethSent() {
        Weave x = piled(54, "d=C1(0);b=A0(0);S(d,9);T(1);");
        x.finish(x.poll(0), 4);
        Checks.due("the fifty-ninth", event(x, 58), "9(0,9)@0");
        Checks.due("messages", x.shard(0, 4), 2);
        x = piled(55, "d=C1(0);b=A0(0);S(d,9);T(1);");
        x.finish(x.poll(0), 4);
        dueOver(x);
        Checks.due("messages", x.shard(0, 4), 1);
    }

    /** EVENTS: RESULT; finish() is done all the same, and the LOCAL is not set. */
    private static void eventsSixtiethResult() {
        Weave x = behindResult(56, "c=7;");
        Checks.due("the fifty-ninth", event(x, 58) + event(x, 59), "2(4,0)@010(0,0)@0");
        Checks.due("b and c", x.query(0, 1) * 10 + x.query(0, 2), 47);
        x = behindResult(57, "c=7;");
        dueOver(x);
        Checks.due("b and c", x.query(0, 1) * 10 + x.query(0, 2), 5);
        Checks.due("tasks", x.shard(0, 5) + x.shard(0, 6), 0);
    }

    private static Weave givenUp(int signals) {
        Weave x = piled(signals, "b=A0(0);c=7;");
        for (int tries = 1; tries <= 4; tries++) {
            Checks.due("fail", x.fail(x.poll(0)), true);
            x.tick(8);
        }
        return x;
    }

    /** EVENTS: GIVEN UP; fail() is done all the same. */
    private static void eventsSixtiethGivenUp() {
        Weave x = givenUp(56);
        Checks.due("the fifty-ninth", event(x, 58) + event(x, 59), "3(-1,0)@010(0,0)@0");
        Checks.due("b and c", x.query(0, 1) * 10 + x.query(0, 2), -3);
        x = givenUp(57);
        dueOver(x);
        Checks.due("b and c", x.query(0, 1) * 10 + x.query(0, 2), 0);
        Checks.due("tasks", x.shard(0, 5), 0);
    }

    /** EVENTS: GIVEN UP by a LEASE that a tick ends. */
    private static void eventsSixtiethGivenUpByATick() {
        Weave x = piled(57, "b=A0(0);c=7;");
        for (int tries = 1; tries <= 4; tries++) {
            Checks.due("poll", x.poll(0), tries);
            x.tick(18);
        }
        dueOver(x);
    }

    /** EVENTS: FIRED; it does not go on. */
    private static void eventsSixtiethFired() {
        Weave x = piled(56, "T(3);c=7;");
        x.tick(3);
        Checks.due("the fifty-ninth", event(x, 58) + event(x, 59), "5(3,0)@010(0,0)@0");
        Checks.due("c", x.query(0, 2), 7);
        x = piled(57, "T(3);c=7;");
        x.tick(2);
        Checks.due("not yet", x.workflow(0, 2), 59);
        x.tick(1);
        dueOver(x);
        Checks.due("c", x.query(0, 2), 0);
    }

    /** EVENTS: CHILD'S END; the message is done. */
    private static void eventsSixtiethChildsEnd() {
        for (int signals = 56; signals <= 57; signals++) {
            Weave x = Checks.with("b=C1(0);c=9;c=J(b);");
            Checks.tell(x, 1, "E(6);");
            x.start(0, 0, 0);
            for (int i = 0; i < signals; i++) {
                x.signal(i, 0, i);
            }
            x.tick(1);
            Checks.due("messages", x.shard(0, 4) + x.shard(1, 4), 0);
            Checks.due("c", x.query(0, 2), signals == 56 ? 6 : 9);
            if (signals == 56) {
                Checks.due("the fifty-ninth", event(x, 58) + event(x, 59), "7(0,6)@010(0,0)@0");
            } else {
                dueOver(x);
            }
        }
    }

    /** EVENTS: CHILD'S END with -3. */
    private static void eventsSixtiethUnborn() {
        Weave x = piled(56, "b=C1(0);c=9;c=J(b);");
        x.tick(1);
        Checks.due("the fifty-ninth", event(x, 58) + event(x, 59), "7(0,-3)@010(0,0)@0");
        x = piled(57, "b=C1(0);c=9;c=J(b);");
        x.tick(1);
        dueOver(x);
        Checks.due("c", x.query(0, 2), 9);
        Checks.due("messages", x.shard(0, 4), 0);
    }

    /** EVENTS: SIGNAL of a client, and promise 6: "OVER in its place, which has no ORIGIN". */
    private static void eventsSixtiethSignal() {
        Weave x = piled(57, "b=A0(0);");
        Checks.due("the fifty-ninth", event(x, 58), "8(56,0)@1056");
        Checks.due("it waits", x.workflow(0, 0), 0);
        Checks.due("one that there was", x.signal(1056, 0, 3), true);
        Checks.due("no event more", x.workflow(0, 2), 59);
        Checks.due("the sixtieth", x.signal(7, 0, 3), true);
        dueOver(x);
        Checks.due("tasks", x.shard(0, 5), 0);
        Checks.due("the same request has no ORIGIN here", x.signal(7, 0, 3), false);
        Checks.due("one that there was", x.signal(1000, 0, 3), true);
    }

    /** EVENTS: a SIGNAL that it waits for. */
    private static void eventsSixtiethSignalThatItWaitsFor() {
        Weave x = piled(58, "0:b=W;G0;");
        Checks.due("the fifty-ninth", event(x, 58), "8(57,0)@1057");
        Checks.due("b", x.query(0, 1), 57);
        Checks.due("the sixtieth", x.signal(7, 0, 3), true);
        dueOver(x);
        Checks.due("b", x.query(0, 1), 57);
        Checks.due("signals that no W took", x.workflow(0, 5), 0);
    }

    /** EVENTS: SIGNAL of a message; that is done. */
    private static void eventsSixtiethSignalOfAChild() {
        for (int signals = 55; signals <= 56; signals++) {
            Weave x = Checks.with("b=C1(0);c=A0(0);");
            Checks.tell(x, 1, "S(-1,8);d=W;");
            x.start(0, 0, 0);
            for (int i = 0; i < signals; i++) {
                x.signal(i, 0, i);
            }
            x.tick(1);
            Checks.due("messages", x.shard(0, 4) + x.shard(1, 4), 0);
            if (signals == 55) {
                Checks.due("the fifty-ninth", event(x, 58), "8(8,0)@-66");
            } else {
                dueOver(x);
            }
        }
    }

    /** EVENTS: "but for kinds 10, 11, 12". */
    private static void eventsSixtiethEnds() {
        Weave x = behindResult(56, "E(3);");
        Checks.due("ENDED by E", event(x, 59), "10(3,0)@0");
        Checks.due("with", x.workflow(0, 1), 3);
        x = behindResult(56, "c=1;");
        Checks.due("ENDED behind the last STEP", event(x, 59), "10(0,0)@0");
        Checks.due("with", x.workflow(0, 1), 0);
        x = piled(57, "b=A0(0);");
        Checks.due("cancel", x.cancel(0), true);
        Checks.due("CANCELLED", event(x, 59), "11(-2,0)@0");
        Checks.due("with", x.workflow(0, 1), -2);
        dueOver(behindResult(56, "0:G0;"));
    }

    /** EVENTS: "SIGNALS and CHILD'S ENDS count, whatever it waits for". */
    private static void eventsSignalsAndEndsCount() {
        String[] waits = {"c=A0(0);", "T(50);", "c=W;c=W;c=W;", "c=J(1);"};
        for (int i = 0; i < 4; i++) {
            Weave x = Checks.with("a=C1(4);b=C2(0);" + waits[i]);
            Checks.tell(x, 1, "E(a);");
            Checks.tell(x, 2, "a=W;");
            x.start(0, 0, 0);
            int events = x.workflow(0, 2);
            x.signal(1, 0, 5);
            x.tick(1);
            x.signal(2, 0, 6);
            Checks.due("events with " + waits[i], x.workflow(0, 2), events + 3);
            Checks.due("it waits still", x.workflow(0, 0), i);
        }
    }

    // ---- Promise 5 ----

    /** Promise 5: "A client's request (0 or more)", "in the SHARD request modulo 4". */
    private static void promise5Requests() {
        Weave x = Checks.with("b=W;");
        for (int request : new int[] {MIN, MIN + 1, -4, -3, -2, -1}) {
            Checks.due("request " + request, x.start(request, 0, 0), -1);
        }
        for (int s = 0; s < 4; s++) {
            Checks.due("workflows", x.shard(s, 3) + x.replica(s, 0, 1), 0);
        }
        int[] requests = {0, 1, 2, 3, 4, 5, MAX - 1, MAX};
        int[] numbers = {0, 1, 2, 3, 4, 5, 6, 7};
        for (int i = 0; i < 8; i++) {
            Checks.due("request " + requests[i], x.start(requests[i], 0, 0), numbers[i]);
            Checks.due("its origin", x.event(numbers[i], 0, 3), requests[i]);
        }
        for (int i = 0; i < 8; i++) {
            Checks.due("request " + requests[i] + " again", x.start(requests[i], 0, 5), numbers[i]);
        }
        Checks.due("workflows", x.shard(0, 3) + x.shard(3, 3), 4);
    }

    /** Promise 5: "NONE if there is no such PROGRAM". */
    private static void promise5Programs() {
        Weave x = new Weave();
        Checks.tell(x, 0, "b=W;");
        Checks.tell(x, 7, "b=W;");
        for (int p : Checks.outside(0, 7)) {
            Checks.due("program " + p, x.start(0, p, 0), -1);
        }
        for (int p = 1; p < 7; p++) {
            Checks.due("program " + p, x.start(0, p, 0), -1);
        }
        Checks.due("records", x.replica(0, 0, 1), 0);
        Checks.due("program 0", x.start(0, 0, 0), 0);
        Checks.due("program 7", x.start(4, 7, 0), 4);
    }

    /** Promise 5: "if the SHARD does not WORK; then, if it has one with this ORIGIN, that one; NONE if". */
    private static void promise5WhatComesFirst() {
        Weave x = Checks.with("b=W;");
        x.start(1, 0, 0);
        x.start(5, 0, 0);
        Checks.due("one that there is, for no program", x.start(5, 3, 0), 5);
        Checks.due("one that there is, for no such program", x.start(1, 8, 0), 1);
        Checks.stop(x, 1);
        Checks.due("a shard that does not work", x.start(5, 0, 0), -1);
        Checks.due("a new one", x.start(9, 0, 0), -1);
        x.power(1, 1, true);
        Checks.due("it works", x.start(5, 0, 0), 5);
        Checks.due("nothing came of that", x.shard(1, 3), 2);
    }

    /** Promise 5: "NONE if ... STARTED is not done", at each byte of the leader's; promise 17: 0 and more bytes. */
    private static void promise5StartedNotDone() {
        for (int bytes = 0; bytes <= 17; bytes++) {
            Weave x = Checks.with("b=W;");
            x.fuse(0, 0, bytes);
            Checks.due("start with " + bytes, x.start(0, 0, 0), bytes < 16 ? -1 : 0);
            Checks.due("workflows", x.shard(0, 3), bytes < 16 ? 0 : 1);
            Checks.due("leader and term", x.shard(0, 0) * 10 + x.shard(0, 1), bytes < 16 ? 11 : 0);
            Checks.due("bytes of the old leader", x.replica(0, 0, 2), bytes % 16 * (bytes < 16 ? 1 : 0));
            Checks.due("again", x.start(0, 0, 0), 0);
        }
    }

    /** Promise 5: "(It GOES ON at once.)"; what STARTED led to may be given up, the call is told done. */
    private static void promise5GoesOnAtOnce() {
        for (int bytes = 16; bytes < 33; bytes++) {
            Weave x = Checks.with("b=A0(3);");
            x.power(0, 2, false);
            x.fuse(0, 1, bytes);
            Checks.due("start", x.start(0, 0, 0), 0);
            Checks.due("events", x.workflow(0, 2), bytes < 32 ? 1 : 2);
            Checks.due("it was going on, or waits", x.workflow(0, 0), bytes < 32 ? 5 : 0);
            Checks.due("leader", x.shard(0, 0), bytes < 32 ? -1 : 0);
        }
    }

    // ---- Promise 6 ----

    /** Promise 6: "A client's request (0 or more)". */
    private static void promise6Requests() {
        Weave x = Checks.with("b=A0(0);");
        x.start(0, 0, 0);
        for (int request : new int[] {MIN, MIN + 1, -2, -1}) {
            Checks.due("request " + request, x.signal(request, 0, 1), false);
        }
        Checks.due("events", x.workflow(0, 2), 2);
        for (int request : new int[] {0, 1, MAX - 1, MAX}) {
            Checks.due("request " + request, x.signal(request, 0, request), true);
            Checks.due("again", x.signal(request, 0, 77), true);
        }
        Checks.due("events", Checks.history(x, 0),
            "0(0,0)@0 1(0,0) 8(0,0)@0 8(1,0)@1 8(2147483646,0)@2147483646 8(2147483647,0)@2147483647");
    }

    /** Promise 6: an ORIGIN is a WORKFLOW's own: the same request may be another one's, too, and STARTED's is none. */
    private static void promise6OriginsAreItsOwn() {
        Weave x = Checks.with("b=A0(0);");
        x.start(0, 0, 0);
        x.start(4, 0, 0);
        Checks.due("the request of its STARTED", x.signal(0, 0, 5), true);
        Checks.due("events", x.workflow(0, 2), 3);
        Checks.due("another workflow's", x.signal(0, 4, 5), true);
        Checks.due("events", x.workflow(4, 2), 3);
    }

    /** Promise 6: "if there is no such WORKFLOW". */
    private static void promise6Workflows() {
        Weave x = Checks.with("b=A0(0);");
        x.start(0, 0, 0);
        x.start(4, 0, 0);
        for (int w : new int[] {MIN, -4, -1, 1, 2, 3, 5, 8, 60, 63, 64, 68, MAX - 3, MAX}) {
            Checks.due("workflow " + w, x.signal(1, w, 1), false);
        }
        Checks.due("events", x.workflow(0, 2) + x.workflow(4, 2), 4);
    }

    /** Promise 6: "then true, with nothing done, if it has an EVENT 8 with this ORIGIN; false if it has ended". */
    private static void promise6WhatComesFirst() {
        Weave x = Checks.with("b=W;");
        x.start(0, 0, 0);
        Checks.due("signal", x.signal(5, 0, 1), true);
        Checks.due("it has ended", x.workflow(0, 0), 4);
        Checks.due("one that it has, though it has ended", x.signal(5, 0, 2), true);
        Checks.due("another one", x.signal(6, 0, 2), false);
        Checks.stop(x, 0);
        Checks.due("one that it has, in a shard that does not work", x.signal(5, 0, 2), false);
        Checks.due("request -1 of one that it has", x.signal(-1, 0, 2), false);
        Checks.due("events", x.workflow(0, 2), 3);
    }

    /** Promise 6: "false if ... EVENT 8 ... is not done", at each byte, also of OVER in its place. */
    private static void promise6NotDone() {
        for (int bytes = 0; bytes <= 17; bytes++) {
            Weave x = Checks.with("b=A0(0);");
            x.start(0, 0, 0);
            x.fuse(0, 0, bytes);
            Checks.due("signal with " + bytes, x.signal(8, 0, 4), bytes >= 16);
            Checks.due("events", x.workflow(0, 2), bytes >= 16 ? 3 : 2);
            Checks.due("again", x.signal(8, 0, 4), true);
            Checks.due("once", x.workflow(0, 2), 3);
        }
        Weave x = piled(57, "b=A0(0);");
        x.fuse(0, 0, 15);
        Checks.due("OVER is not done", x.signal(8, 0, 4), false);
        Checks.due("events", x.workflow(0, 2), 59);
        Checks.due("OVER", x.signal(8, 0, 4), true);
        Checks.due("events", x.workflow(0, 2), 60);
    }

    // ---- Promise 7 ----

    /** Promise 7: "false if there is no such WORKFLOW, it has ended, its SHARD does not WORK, or it is not done". */
    private static void promise7Refused() {
        Weave x = Checks.with("b=A0(0);");
        x.start(0, 0, 0);
        x.start(4, 0, 0);
        for (int w : new int[] {MIN, -4, -1, 1, 2, 3, 5, 8, 63, 64, MAX - 3, MAX}) {
            Checks.due("workflow " + w, x.cancel(w), false);
        }
        Checks.due("cancel", x.cancel(4), true);
        Checks.due("it has ended", x.cancel(4), false);
        Checks.due("events", x.workflow(4, 2), 3);
        Checks.stop(x, 0);
        Checks.due("its shard does not work", x.cancel(0), false);
        Checks.due("also one that has ended", x.cancel(4), false);
        x.power(0, 1, true);
        for (int bytes = 0; bytes < 16; bytes++) {
            int leader = x.shard(0, 0);
            x.fuse(0, leader, bytes);
            x.power(0, 1, true);
            x.power(0, 2, true);
            Checks.due("not done with " + bytes, x.cancel(0), false);
            Checks.due("it waits", x.workflow(0, 0), 0);
            x.power(0, leader, true);
        }
        x.fuse(0, x.shard(0, 0), 16);
        Checks.due("done", x.cancel(0), true);
        Checks.due("its history", Checks.history(x, 0), "0(0,0)@0 1(0,0) 11(-2,0)");
    }

    /** Promise 7: a WORKFLOW can be cancelled whatever it waits for. */
    private static void promise7WhateverItWaitsFor() {
        String[] waits = {"c=A0(0);", "T(5);", "c=W;", "c=C0(0);c=J(0);"};
        for (int i = 0; i < 4; i++) {
            Weave x = Checks.with(waits[i]);
            x.start(0, 0, 0);
            Checks.due("it waits", x.workflow(0, 0), i);
            int events = x.workflow(0, 2);
            Checks.due("cancel", x.cancel(0), true);
            Checks.due("CANCELLED", event(x, events), "11(-2,0)@0");
            Checks.due("it has ended with", x.workflow(0, 0) * 10 + x.workflow(0, 1), 38);
        }
    }

    // ---- Promise 8 ----

    /** Promise 8: "A LOCAL (0 a .. 7 h)"; "NoSuchElementException: there is none such (that first)". */
    private static void promise8Locals() {
        Weave x = Checks.with("b=1;c=2;d=3;e=4;f=5;g=6;h=7;b=W;");
        x.start(0, 0, 10);
        for (int v = 0; v < 8; v++) {
            Checks.due("local " + v, x.query(0, v), v == 0 ? 10 : v);
        }
        for (int round = 0; round < 2; round++) {
            for (int v : Checks.outside(0, 7)) {
                Checks.dueThrown("local " + v, NoSuchElementException.class, () -> x.query(0, v));
            }
            for (int w : new int[] {MIN, -4, -1, 1, 3, 4, 63, 64, MAX}) {
                Checks.dueThrown("workflow " + w, NoSuchElementException.class, () -> x.query(w, 0));
                Checks.dueThrown("workflow " + w, NoSuchElementException.class, () -> x.query(w, 8));
            }
            if (round == 0) {
                Checks.stop(x, 0);
            }
        }
        for (int v = 0; v < 8; v++) {
            int one = v;
            Checks.dueThrown("its shard does not work", IllegalStateException.class, () -> x.query(0, one));
        }
        x.power(0, 1, true);
        Checks.due("it works", x.query(0, 7), 7);
    }
}
