import java.util.function.Consumer;

/** Logs, records that are done or not, elections, and workflows built again from their events. */
public final class ElectionTest {
    private static final String TALE = "b=A0(a);T(3);c=W;d=C1(b);T(2);S(d,4);e=J(d);f=A1(e);g=W;h=J(d);E(h);";

    public static void main(String[] args) {
        leaderRecord();
        bestCandidate();
        losersRecordsGo();
        candidateGoesDown();
        followersGoDownByAlike();
        noneIsLeft();
        waitsAgain();
        stepsAreCountedAgain();
        goOnByNumbers();
        tasksAgain();
        outboxAgain();
        everyByte();
        Checks.end();
    }

    private static void leaderRecord() {
        Weave x = Checks.with("b=W;");
        x.replicas(0, 5);
        Checks.due("leader 0 of term 0 has no record", x.replica(0, 0, 1), 0);
        x.power(0, 0, false);
        Checks.due("leader and term", x.shard(0, 0) * 10 + x.shard(0, 1), 11);
        Checks.due("the log", Checks.log(x, 0, 4), "0.13/1(1,0,0)");
        Checks.due("not on the one that is down", x.replica(0, 0, 1), 0);
        x.power(0, 1, false);
        Checks.due("the log", Checks.log(x, 0, 4), "0.13/1(1,0,0) 0.13/2(2,0,0)");
        x.start(0, 0, 5);
        Checks.due("records have their term", Checks.record(x, 0, 3, 2), "0.0/2(0,5,0)");
    }

    /** The greatest term of a last record counts ahead of the number of records. */
    private static void bestCandidate() {
        Weave x = Checks.with("b=W;c=W;d=W;e=W;f=W;");
        x.replicas(0, 5);
        x.start(0, 0, 0);
        x.power(0, 3, false);
        x.power(0, 4, false);
        x.fuse(0, 1, 0);
        x.fuse(0, 2, 0);
        Checks.due("not done", x.signal(1, 0, 1), false);
        Checks.due("leader 0 alone has it", x.replica(0, 0, 1), 2);
        x.power(0, 0, false);
        for (int r = 1; r < 4; r++) {
            x.power(0, r, true);
        }
        Checks.due("the least of those that are alike", x.shard(0, 0), 1);
        Checks.due("term", x.shard(0, 1), 1);
        x.power(0, 0, true);
        Checks.due("what the others had not is gone", Checks.log(x, 0, 0), "0.0/0(0,0,0) 0.13/1(1,0,0)");
        x.power(0, 4, true);
        x.power(0, 0, false);
        x.signal(2, 0, 2);
        x.power(0, 1, false);
        Checks.due("the least that is up", x.shard(0, 0), 2);
        x.power(0, 0, true);
        x.power(0, 3, false);
        x.signal(3, 0, 3);
        x.power(0, 4, false);
        Checks.due("two of five", x.shard(0, 0), -1);
        x.power(0, 3, true);
        Checks.due("the one with the most records, of the least numbers", x.shard(0, 0), 0);
        Checks.due("the log", Checks.log(x, 0, 3),
            "0.0/0(0,0,0) 0.13/1(1,0,0) 0.8/1(2,0,2) 0.13/2(2,0,0) 0.8/2(3,0,3) 0.13/3(0,0,0)");
        Weave y = Checks.with("b=W;c=W;d=W;");
        y.start(0, 0, 0);
        y.power(0, 1, false);
        y.fuse(0, 2, 0);
        y.signal(1, 0, 1);
        y.power(0, 0, false);
        y.power(0, 1, true);
        y.power(0, 2, true);
        y.power(0, 1, false);
        y.power(0, 0, true);
        Checks.due("a later term with as many records", y.shard(0, 0), 2);
        Checks.due("the log", Checks.log(y, 0, 0), "0.0/0(0,0,0) 0.13/1(1,0,0) 0.13/2(2,0,0)");
        Checks.due("the signal never came", y.workflow(0, 2), 1);
    }

    private static void losersRecordsGo() {
        Weave x = Checks.with("b=W;c=W;d=W;");
        x.start(0, 0, 0);
        x.power(0, 1, false);
        x.fuse(0, 2, 3);
        Checks.due("not done", x.signal(1, 0, 77), false);
        Checks.due("events", x.workflow(0, 2), 1);
        x.power(0, 1, true);
        Checks.due("but leader 0 has it, and is leader again", Checks.history(x, 0), "0(0,0)@0 8(77,0)@1");
        Checks.due("signal", x.signal(1, 0, 77), true);
        x.fuse(0, 1, 16);
        x.signal(2, 0, 78);
        Checks.due("done, the fuse has nothing left", x.replica(0, 1, 3), 0);
        x.power(0, 2, true);
        x.signal(3, 0, 79);
        Checks.due("one of three is down", x.replica(0, 1, 0), 0);
        Checks.due("done", Checks.history(x, 0), "0(0,0)@0 8(77,0)@1 8(78,0)@2 8(79,0)@3 10(0,0)");
    }

    /** The one that is to be leader has a fuse: its LEADER is not done, and another election comes at once. */
    private static void candidateGoesDown() {
        Weave x = Checks.with("b=W;");
        x.replicas(0, 5);
        x.start(0, 0, 0);
        x.fuse(0, 1, 4);
        x.fuse(0, 2, 16);
        x.power(0, 0, false);
        Checks.due("leader 2 of term 2", x.shard(0, 0) * 10 + x.shard(0, 1), 22);
        Checks.due("bytes of the first try", x.replica(0, 1, 2), 4);
        Checks.due("one of them is its term", x.disk(0, 1, 0, 18), 1);
        Checks.due("signal", x.signal(1, 0, 1), false);
        Checks.due("two are left", x.shard(0, 0), -1);
        Checks.due("no more elections", x.shard(0, 1), 2);
        x.power(0, 1, true);
        Checks.due("the log", Checks.log(x, 0, 1), "0.0/0(0,0,0) 0.13/2(2,0,0) 0.13/3(3,0,0)");
    }

    private static void followersGoDownByAlike() {
        Weave x = Checks.with("b=W;c=W;d=W;e=W;");
        x.replicas(0, 4);
        x.start(0, 0, 0);
        x.power(0, 3, false);
        x.fuse(0, 2, 0);
        x.power(0, 0, false);
        Checks.due("two of four", x.shard(0, 0), -1);
        Checks.due("no election", x.shard(0, 1), 0);
        x.power(0, 3, true);
        Checks.due("replica 2 goes down by LEADER, it is not done", x.shard(0, 1), 1);
        Checks.due("two are up", x.shard(0, 0), -1);
        Checks.due("LEADER lies on two", x.replica(0, 1, 1) * 10 + x.replica(0, 3, 1), 22);
        x.power(0, 2, true);
        Checks.due("leader 1 of term 2", x.shard(0, 0) * 10 + x.shard(0, 1), 12);
        Checks.due("the log", Checks.log(x, 0, 2), "0.0/0(0,0,0) 0.13/1(1,0,0) 0.13/2(1,0,0)");
        Weave y = Checks.with("b=W;c=W;d=W;e=W;");
        y.replicas(0, 5);
        y.power(0, 3, false);
        y.power(0, 4, false);
        y.start(0, 0, 0);
        y.signal(1, 0, 1);
        y.power(0, 0, false);
        y.power(0, 2, false);
        y.power(0, 4, true);
        y.fuse(0, 4, 20);
        Checks.due("no election as yet", y.shard(0, 1), 0);
        y.power(0, 3, true);
        Checks.due("replica 4 went down while it was made alike", y.replica(0, 4, 0), 0);
        Checks.due("a record and four bytes", y.replica(0, 4, 1) * 10 + y.replica(0, 4, 2), 14);
        Checks.due("LEADER was tried all the same", Checks.log(y, 0, 3), "0.0/0(0,0,0) 0.8/0(1,0,1) 0.13/1(1,0,0)");
        Checks.due("two are left", y.shard(0, 0) * 10 + y.shard(0, 1), -9);
        y.power(0, 4, true);
        Checks.due("the log", Checks.log(y, 0, 4), "0.0/0(0,0,0) 0.8/0(1,0,1) 0.13/1(1,0,0) 0.13/2(1,0,0)");
    }

    private static void noneIsLeft() {
        Weave x = Checks.with("b=W;");
        x.start(0, 0, 0);
        x.start(4, 0, 0);
        for (int r = 0; r < 3; r++) {
            x.power(0, r, false);
        }
        Checks.due("no leader", x.shard(0, 0), -1);
        x.power(0, 2, true);
        Checks.due("one is too few", x.shard(0, 0), -1);
        x.power(0, 1, true);
        Checks.due("leader 1 of term 2", x.shard(0, 0) * 10 + x.shard(0, 1), 12);
        Checks.due("workflows", x.shard(0, 3), 2);
    }

    /** A W that waited waits again; one that found its signal at once finds it again. */
    private static void waitsAgain() {
        String text = "c=C1(0);d=C1(0);e=A0(0);b=W;f=J(c);0:a=a-1;I(a)0;g=W;h=J(d);E(h);";
        for (int early = 0; early < 2; early++) {
            Weave x = Checks.with(text);
            Checks.tell(x, 1, "b=W;E(b);");
            x.start(0, 0, 95);
            x.tick(1);
            if (early == 1) {
                x.signal(1, 0, 51);
                x.signal(1, 1, 61);
                x.tick(1);
            }
            x.finish(x.poll(0), 1);
            if (early == 0) {
                x.signal(1, 0, 51);
                x.signal(1, 1, 61);
                x.tick(1);
            }
            same(x, y -> restart(y, 0));
            Checks.due("b and f", x.query(0, 1) * 100 + x.query(0, 5), 5161);
            Checks.due("it waits for a signal", x.workflow(0, 0), 2);
            x.signal(2, 0, 52);
            same(x, y -> restart(y, 0));
            Checks.due("it waits for a child", x.workflow(0, 0), 3);
            x.signal(1, 5, 62);
            x.tick(1);
            same(x, y -> restart(y, 0));
            Checks.due("its end", x.workflow(0, 1), 62);
        }
    }

    /** The steps since it last waited are counted from the events, too. */
    private static void stepsAreCountedAgain() {
        Weave x = Checks.with("b=W;0:a=a-1;I(a)0;c=C1(0);d=b;E(d);");
        x.start(0, 0, 98);
        x.fuse(0, 0, 32);
        Checks.due("the leader goes down behind CHILD", x.signal(1, 0, 6), true);
        Checks.due("200 steps in all", x.workflow(0, 1), 6);
        x.power(0, 0, true);
        x.start(4, 0, 99);
        x.fuse(0, 1, 32);
        Checks.due("the leader goes down behind CHILD", x.signal(1, 4, 6), true);
        Checks.due("E is the 201st", Checks.history(x, 4), "0(0,99)@4 8(6,0)@1 6(1,0) 12(-1,0)");
    }

    private static void goOnByNumbers() {
        Weave x = Checks.with("b=W;c=A0(b);");
        x.start(0, 0, 0);
        x.start(4, 0, 0);
        x.fuse(0, 1, 0);
        x.fuse(0, 2, 0);
        Checks.due("not done", x.signal(1, 4, 9), false);
        x.power(0, 1, true);
        Checks.due("done by the election, it went on", Checks.log(x, 0, 1),
            "0.0/0(0,0,0) 1.0/0(0,0,4) 1.8/0(9,0,1) 0.13/1(0,0,0) 1.1/1(0,9,0)");
        Weave y = Checks.with("T(1);b=A0(0);");
        y.start(0, 0, 0);
        y.start(4, 0, 0);
        y.replica(0, 0, 0);
        y.fuse(0, 0, 16);
        y.tick(1);
        Checks.due("workflow 0 goes on in the election, then the tick does", Checks.log(y, 0, 1),
            "0.0/0(0,0,0) 0.4/0(1,0,0) 1.0/0(0,0,4) 1.4/0(1,0,0) 0.5/0(1,0,0) 0.13/1(1,0,0) 0.1/1(0,0,0) "
            + "1.5/1(1,0,0) 1.1/1(0,0,0)");
    }

    private static void tasksAgain() {
        Weave x = Checks.with("b=A0(8);c=A1(9);E(c);");
        x.start(0, 0, 0);
        x.fail(x.poll(0));
        x.tick(2);
        x.fail(x.poll(0));
        restart(x, 0);
        Checks.due("it is ready at 6", x.poll(0), -1);
        x.tick(4);
        restart(x, 0);
        Checks.due("poll", x.poll(0), 3);
        Checks.due("tries", x.task(3, 2), 3);
        Checks.due("x", x.task(3, 1), 8);
        x.finish(3, 0);
        restart(x, 0);
        Checks.due("poll", x.poll(1), 4);
        Checks.due("a TRIED of an earlier task is not looked at", x.task(4, 2), 1);
        Checks.due("x", x.task(4, 1), 9);
    }

    private static void outboxAgain() {
        Weave x = Checks.with("b=C1(0);c=C2(0);S(b,1);d=W;");
        Checks.tell(x, 1, "b=W;c=W;");
        Checks.tell(x, 2, "b=W;c=W;");
        x.start(0, 0, 0);
        x.power(2, 0, false);
        x.power(2, 1, false);
        x.tick(1);
        Checks.due("one stays", x.shard(0, 4), 1);
        same(x, y -> restart(y, 0));
        x.tick(1);
        Checks.due("one stays", x.shard(0, 4), 1);
        x.power(2, 0, true);
        x.tick(1);
        Checks.due("it is gone", x.shard(0, 4), 0);
        same(x, y -> restart(y, 0));
        x.tick(1);
        Checks.due("each once", Checks.history(x, 1) + " " + Checks.history(x, 2), "0(1,0)@-1 8(1,0)@-4 0(2,0)@-2");
    }

    /** All replicas go down and come up again. */
    private static void restart(Weave x, int s) {
        for (int r = 0; r < x.shard(s, 2); r++) {
            x.power(s, r, false);
        }
        for (int r = 0; r < x.shard(s, 2); r++) {
            x.power(s, r, true);
        }
    }

    private static String all(Weave x) {
        StringBuilder text = new StringBuilder();
        for (int w = 0; w < 64; w++) {
            for (int what = 0; what < 7 && x.workflow(w, 0) >= 0; what++) {
                text.append(x.workflow(w, what)).append(' ');
            }
            for (int v = 0; v < 8 && x.workflow(w, 0) >= 0; v++) {
                text.append(x.query(w, v)).append(' ');
            }
            text.append(x.workflow(w, 0) >= 0 ? Checks.history(x, w) + "\n" : "");
        }
        for (int s = 0; s < 4; s++) {
            text.append(x.shard(s, 3)).append(' ').append(x.shard(s, 4)).append(' ').append(x.shard(s, 5)).append('\n');
        }
        return text.toString();
    }

    private static void same(Weave x, Consumer<Weave> deed) {
        String before = all(x);
        deed.accept(x);
        Checks.due("all is as it was", all(x), before);
    }

    /** A tale whose leaders' power fails at each byte in turn: what is done once must come out the same. */
    private static void everyByte() {
        String[] want = tell(-1, 0);
        for (int s = 0; s < 2; s++) {
            for (int bytes = 0; bytes < 320; bytes++) {
                String[] got = tell(bytes, s);
                Checks.due("history with a fuse of " + bytes + " in shard " + s, got[0], want[0]);
                Checks.due("the child's", got[1], want[1]);
                Checks.due("messages", got[2], "0");
            }
        }
    }

    /** Clients and workers ask again until they are heard; ticks in events are left out, as they may come later. */
    private static String[] tell(int bytes, int s) {
        Weave x = Checks.with(TALE);
        Checks.tell(x, 1, "b=W;c=A1(a);d=b+c;E(d);");
        if (bytes >= 0) {
            x.fuse(s, 0, bytes);
        }
        for (int i = 0; i < 40; i++) {
            x.start(0, 0, 5);
            work(x, 0, 21);
            work(x, 1, 22);
            x.signal(1, 0, 31);
            if (x.workflow(0, 5) == 0 && x.workflow(0, 0) == 2) {
                x.signal(2, 0, 32);
            }
            x.tick(1);
        }
        Checks.due("it has ended", x.workflow(0, 0), 4);
        int messages = x.shard(0, 4) + x.shard(1, 4);
        return new String[] {bare(Checks.history(x, 0)), bare(Checks.history(x, 1)), "" + messages};
    }

    private static String bare(String history) {
        return history.replaceAll("([45])\\(\\d+,0\\)", "$1").replaceAll("8\\(31,0\\)@1 ", "");
    }

    private static void work(Weave x, int kind, int value) {
        for (int token = x.poll(kind); token > 0; token = x.poll(kind)) {
            x.finish(token, value);
        }
    }
}
