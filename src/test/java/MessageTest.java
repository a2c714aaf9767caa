/** The messages of a tick (promise 14): children, signals and ends, each once. */
public final class MessageTest {
    public static void main(String[] args) {
        places();
        unborn();
        full();
        signalsBothWays();
        signalsToNone();
        endsToEnded();
        turns();
        messageOfTheTurn();
        targetDown();
        eventNotDone();
        goneNotDone();
        signalBehindAStartThatStays();
        startOfAnEndedParent();
        parentIsFull();
        Checks.end();
    }

    private static void places() {
        Weave x = Checks.with("b=C0(0);b=C1(1);b=C2(2);b=C3(3);b=C4(4);b=C5(5);b=C6(6);b=C7(7);c=W;");
        for (int p = 1; p < 8; p++) {
            Checks.tell(x, p, "b=W;");
        }
        Checks.tell(x, 4, "b=W;c=W;");
        x.start(2, 0, 0);
        Checks.due("messages", x.shard(2, 4), 8);
        Checks.due("children", x.workflow(2, 4), 8);
        Checks.tell(x, 0, "b=W;");
        x.tick(1);
        Checks.due("messages", x.shard(2, 4), 0);
        int[] numbers = {6, 3, 0, 1, 10, 7, 4, 5};
        for (int k = 0; k < 8; k++) {
            int version = k == 0 || k == 4 ? 8 : 0;
            Checks.due("child " + k, Checks.history(x, numbers[k]), "0(" + (k + version) + "," + k + ")@" + (-129 - k));
            Checks.due("its parent", x.workflow(numbers[k], 6), 2);
            Checks.due("its program", x.workflow(numbers[k], 3), k);
        }
        Checks.due("the last of the records", Checks.record(x, 2, 1, x.replica(2, 1, 1) - 1), "0.14/0(8,0,0)");
        Checks.due("the first GONE", Checks.record(x, 2, 1, 10), "0.14/0(1,0,0)");
    }

    private static void unborn() {
        Weave x = Checks.with("b=C3(0);c=J(0);E(c);");
        x.start(0, 0, 0);
        x.tick(1);
        Checks.due("no such program", Checks.history(x, 0), "0(0,0)@0 6(3,0) 7(0,-3) 10(-3,0)");
        Checks.due("the log", Checks.log(x, 0, 0),
            "0.0/0(0,0,0) 0.6/0(3,0,0) 0.7/0(0,-3,0) 0.10/0(-3,0,0) 0.14/0(1,0,0)");
        Checks.due("messages", x.shard(0, 4), 0);
    }

    private static void full() {
        Weave x = Checks.with("b=C1(0);c=J(0);E(c);");
        Checks.tell(x, 1, "b=W;");
        for (int n = 0; n < 16; n++) {
            x.start(1 + 4 * n, 1, 0);
        }
        x.start(0, 0, 0);
        x.tick(1);
        Checks.due("sixteen are there", x.workflow(0, 1), -3);
        Checks.due("workflows", x.shard(1, 3), 16);
    }

    private static void signalsBothWays() {
        Weave x = Checks.with("b=C1(5);S(b,71);c=W;d=W;S(b,72);e=J(b);E(e);");
        Checks.tell(x, 1, "S(-1,81);b=W;S(-1,b);S(-1,82);c=W;E(c);");
        x.start(3, 0, 0);
        Checks.due("messages", x.shard(3, 4), 2);
        x.tick(1);
        Checks.due("the child, behind the tick", Checks.history(x, 0),
            "0(1,5)@-193 9(-1,81) 8(71,0)@-195 9(-1,71) 9(-1,82)");
        Checks.due("the parent", Checks.history(x, 3), "0(0,0)@3 6(1,5) 9(0,71)");
        Checks.due("messages of the child", x.shard(0, 4), 3);
        x.tick(1);
        Checks.due("the parent, in the next tick", Checks.history(x, 3),
            "0(0,0)@3 6(1,5) 9(0,71) 8(81,0)@-2 8(71,0)@-4 9(0,72) 8(82,0)@-5");
        Checks.due("the child ends by its turn", Checks.history(x, 0),
            "0(1,5)@-193 9(-1,81) 8(71,0)@-195 9(-1,71) 9(-1,82) 8(72,0)@-198 10(72,0)");
        x.tick(1);
        Checks.due("the parent's end", x.workflow(3, 1), 72);
        Checks.due("a signal that no W took", x.workflow(3, 5), 1);
        Checks.due("messages", x.shard(0, 4) + x.shard(3, 4), 0);
    }

    private static void signalsToNone() {
        Weave x = Checks.with(
            "S(-1,1);S(0,1);S(1,1);b=C1(0);S(-1,2);S(1,2);S(-2,2);S(b,3);c=C5(0);S(c,4);T(3);S(b,5);");
        Checks.tell(x, 1, "E(0);");
        x.start(0, 0, 0);
        Checks.due("S without such a child is nothing", Checks.history(x, 0),
            "0(0,0)@0 6(1,0) 9(0,3) 6(5,0) 9(1,4) 4(3,0)");
        x.tick(1);
        Checks.due("the child has ended", Checks.history(x, 1), "0(1,0)@-1 10(0,0)");
        Checks.due("the other one was never there", Checks.history(x, 0),
            "0(0,0)@0 6(1,0) 9(0,3) 6(5,0) 9(1,4) 4(3,0) 7(1,-3) 7(0,0)");
        x.tick(2);
        Checks.due("a signal to one that has ended", x.event(0, 9, 0), 9);
        Checks.due("messages", x.shard(0, 4), 0);
    }

    private static void endsToEnded() {
        Weave x = Checks.with("b=C1(0);E(1);");
        Checks.tell(x, 1, "b=A0(0);E(b);");
        x.start(0, 0, 0);
        x.tick(1);
        Checks.due("its child goes on", x.workflow(1, 0), 0);
        x.finish(x.poll(0), 5);
        Checks.due("a message", x.shard(1, 4), 1);
        x.tick(1);
        Checks.due("no message", x.shard(1, 4), 0);
        Checks.due("nothing came of it", x.workflow(0, 2), 3);
        Checks.due("a client's workflow sends no end", x.shard(0, 4), 0);
        Checks.tell(x, 0, "b=C1(0);c=J(b);E(c);");
        x.start(4, 0, 0);
        x.tick(1);
        x.cancel(5);
        x.tick(1);
        Checks.due("a cancelled child ends with", x.workflow(4, 1), -2);
    }

    /** A message that came behind a shard's turn, or in it, goes in the next tick. */
    private static void turns() {
        Weave x = Checks.with("b=C0(0);");
        Checks.tell(x, 1, "b=C1(0);");
        x.start(0, 0, 0);
        int[] counts = {1, 2, 3, 4};
        for (int i = 0; i < 3; i++) {
            Checks.due("workflows", x.shard(0, 3), counts[i]);
            x.tick(1);
        }
        Weave y = Checks.with("b=C1(0);");
        Checks.tell(y, 1, "b=C1(0);");
        y.start(0, 0, 0);
        y.tick(1);
        Checks.due("shard 1 had its turn behind shard 0, and so on",
            y.shard(1, 3) * 100 + y.shard(2, 3) * 10 + y.shard(3, 3), 111);
        Checks.due("shard 0 had its turn", y.shard(0, 3), 2);
        Checks.due("its message", y.shard(0, 4), 2);
    }

    /** The OVER that a signal makes in its sender's own shard is a message, too: the first behind the others. */
    private static void messageOfTheTurn() {
        Weave x = Checks.with("b=C4(0);c=W;S(b,c);d=J(b);E(d);");
        Checks.tell(x, 4, "b=A0(0);");
        x.start(0, 0, 0);
        x.tick(1);
        for (int i = 0; i < 57; i++) {
            x.signal(i, 4, i);
        }
        Checks.due("59 events", x.workflow(4, 2), 59);
        x.signal(1, 0, 1);
        x.tick(1);
        Checks.due("it is over", x.event(4, 59, 0), 12);
        Checks.due("its end has not come", x.workflow(0, 0), 3);
        Checks.due("it is a message", x.shard(0, 4), 1);
        x.tick(1);
        Checks.due("it came in the next tick", x.workflow(0, 1), -1);
    }

    private static void targetDown() {
        Weave x = Checks.with("b=C1(0);c=C2(0);S(b,9);d=W;");
        Checks.tell(x, 1, "b=W;S(-1,b);");
        Checks.tell(x, 2, "b=W;");
        x.start(0, 0, 0);
        x.power(1, 0, false);
        x.power(1, 1, false);
        x.tick(3);
        Checks.due("two stay, the other one is gone", x.shard(0, 4), 2);
        Checks.due("it has begun", x.workflow(2, 6), 0);
        Checks.due("records", x.replica(0, 0, 1), 5);
        x.power(1, 1, true);
        x.tick(1);
        Checks.due("both are done, in their order", Checks.history(x, 1), "0(1,0)@-1 8(9,0)@-4 9(-1,9) 10(0,0)");
        Checks.due("messages", x.shard(0, 4), 0);
    }

    private static void eventNotDone() {
        Weave x = Checks.with("b=C1(0);c=J(b);E(c);");
        Checks.tell(x, 1, "E(4);");
        x.start(0, 0, 0);
        x.fuse(1, 0, 8);
        x.tick(1);
        Checks.due("STARTED is not done", x.shard(1, 3), 0);
        Checks.due("the message stays", x.shard(0, 4), 1);
        Checks.due("another leader", x.shard(1, 0), 1);
        x.tick(1);
        Checks.due("it is done now", Checks.history(x, 1), "0(1,0)@-1 10(4,0)");
        Checks.due("the parent's end", x.workflow(0, 1), 4);
        Checks.due("no message", x.shard(0, 4) + x.shard(1, 4), 0);
        Weave y = Checks.with("b=C1(0);c=J(b);E(c);");
        Checks.tell(y, 1, "E(4);");
        y.start(0, 0, 0);
        y.fuse(1, 1, 8);
        y.fuse(1, 2, 8);
        y.tick(1);
        Checks.due("STARTED is not done, but lies on a disk", y.replica(1, 0, 1), 1);
        Checks.due("the message stays", y.shard(0, 4), 1);
        y.power(1, 2, true);
        Checks.due("it began by an election", Checks.history(y, 1), "0(1,0)@-1 10(4,0)");
        y.tick(1);
        Checks.due("once", y.shard(1, 3), 1);
        Checks.due("no message", y.shard(0, 4) + y.shard(1, 4), 0);
    }

    private static void goneNotDone() {
        Weave x = Checks.with("b=C1(0);c=C2(0);S(b,3);S(c,4);d=W;");
        Checks.tell(x, 1, "b=W;c=W;");
        Checks.tell(x, 2, "b=W;c=W;");
        x.start(0, 0, 0);
        x.fuse(0, 0, 15);
        x.tick(1);
        Checks.due("the first GONE is not done, the others are", x.shard(0, 4), 1);
        Checks.due("the log", Checks.log(x, 0, 1), "0.0/0(0,0,0) 0.6/0(1,0,0) 0.6/0(2,0,0) 0.9/0(0,3,0) 0.9/0(1,4,0) "
            + "0.13/1(1,0,0) 0.14/1(2,0,0) 0.14/1(3,0,0) 0.14/1(4,0,0)");
        x.tick(1);
        Checks.due("it is gone", Checks.record(x, 0, 1, 9), "0.14/1(1,0,0)");
        Checks.due("it began once", x.shard(1, 3) * 10 + x.shard(2, 3), 11);
        Weave y = Checks.with("b=C1(0);S(b,3);d=W;");
        Checks.tell(y, 1, "b=W;c=W;");
        y.start(0, 0, 0);
        y.fuse(0, 0, 31);
        y.tick(1);
        Checks.due("the signal's GONE is not done", y.shard(0, 4), 1);
        y.tick(1);
        Checks.due("the signal came once", Checks.history(y, 1), "0(1,0)@-1 8(3,0)@-3");
        Checks.due("it is gone", y.shard(0, 4), 0);
    }

    /** Its shard works again at once, but the child is none when the signal has its turn. */
    private static void signalBehindAStartThatStays() {
        Weave x = Checks.with("b=C1(0);S(b,3);c=W;");
        Checks.tell(x, 1, "b=W;");
        x.start(0, 0, 0);
        x.fuse(1, 0, 8);
        x.tick(1);
        Checks.due("the START stays", Checks.log(x, 0, 0), "0.0/0(0,0,0) 0.6/0(1,0,0) 0.9/0(0,3,0) 0.14/0(2,0,0)");
        x.tick(1);
        Checks.due("the child waits", Checks.history(x, 1), "0(1,0)@-1");
        Checks.due("no message", x.shard(0, 4), 0);
    }

    private static void startOfAnEndedParent() {
        Weave x = Checks.with("b=C1(0);c=C3(0);");
        Checks.tell(x, 1, "b=W;");
        x.start(0, 0, 0);
        x.tick(1);
        Checks.due("its child begins", x.workflow(1, 0), 2);
        Checks.due("the other one can't, and nothing comes", Checks.history(x, 0), "0(0,0)@0 6(1,0) 6(3,0) 10(0,0)");
        Checks.due("no message", x.shard(0, 4), 0);
    }

    private static void parentIsFull() {
        Weave x = Checks.with("b=C1(0);c=W;0:c=W;G0;");
        Checks.tell(x, 1, "T(1);E(6);");
        x.start(0, 0, 0);
        for (int i = 0; i < 57; i++) {
            x.signal(i, 0, i);
        }
        Checks.due("59 events", x.workflow(0, 2), 59);
        x.tick(3);
        Checks.due("OVER in the place of the child's end", x.event(0, 59, 0), 12);
        Checks.due("no message", x.shard(1, 4), 0);
    }
}
