import java.util.NoSuchElementException;

/** The edges of promises 18 to 22. */
public final class SeenEdgesTest {
    private static final int MAX = Integer.MAX_VALUE;
    private static final int MIN = Integer.MIN_VALUE;

    public static void main(String[] args) {
        Checks.runAll(SeenEdgesTest.class);
    }

    // ---- Promise 18 ----

    /** Promise 18: "NONE if there is none such, or for another what". */
    private static void promise18None() {
        Weave x = Checks.with("b=W;");
        x.start(2, 0, 0);
        for (int round = 0; round < 2; round++) {
            for (int what : Checks.outside(0, 6)) {
                Checks.due("what " + what, x.workflow(2, what), -1);
            }
            for (int w : new int[] {MIN, -2, -1, 0, 1, 3, 4, 6, 62, 63, 64, 66, MAX - 1, MAX}) {
                for (int what = -1; what <= 7; what++) {
                    Checks.due("workflow " + w, x.workflow(w, what), -1);
                }
            }
            int[] want = {2, 0, 1, 0, 0, 0, -1};
            for (int what = 0; what < 7; what++) {
                Checks.due("what " + what, x.workflow(2, what), want[what]);
            }
            if (round == 0) {
                Checks.stop(x, 2);
            }
        }
    }

    /** Promise 18, what 0: 0 to 4 in a shard that works, 1: "with what (0 till then)". */
    private static void promise18WhatItDoes() {
        String[] texts = {"b=A0(0);", "T(7);", "b=W;", "b=C0(0);c=J(b);", "E(-5);"};
        for (int i = 0; i < 5; i++) {
            Weave x = Checks.with(texts[i]);
            x.start(0, 0, 0);
            Checks.due("what 0 of " + texts[i], x.workflow(0, 0), i);
            Checks.due("what 1 of " + texts[i], x.workflow(0, 1), i == 4 ? -5 : 0);
            Checks.stop(x, 0);
            Checks.due("as it was", x.workflow(0, 0), i);
            Checks.due("as it was", x.workflow(0, 1), i == 4 ? -5 : 0);
            x.cancel(0);
            Checks.due("it can't be cancelled", x.workflow(0, 0), i);
        }
    }

    /** Promise 18, what 0: "5 it was going on": its next EVENT is not done, and there is no leader. */
    private static void promise18ItWasGoingOn() {
        String[] texts = {"b=A0(0);", "T(7);", "b=C0(0);", "E(3);", "d=7;", "0:G0;"};
        for (String text : texts) {
            Weave x = Checks.with("c=9;" + text);
            x.fuse(0, 1, 16);
            x.fuse(0, 2, 16);
            Checks.due("start", x.start(0, 0, 0), 0);
            int[] want = {5, 0, 1, 0, 0, 0, -1};
            for (int what = 0; what < 7; what++) {
                Checks.due("what " + what + " of " + text, x.workflow(0, what), want[what]);
            }
            Checks.due("its record lies on a disk", x.replica(0, 0, 1), 2);
            Checks.due("tasks and messages", x.shard(0, 5) + x.shard(0, 4), 0);
        }
    }

    /** Promise 18, what 2: "(those that were not done are none, whatever lies on DISKS)"; promise 19: "(as above)". */
    private static void promise18EventsThatWereNotDone() {
        Weave x = Checks.with("b=A0(0);");
        x.start(0, 0, 0);
        x.fuse(0, 1, 0);
        x.fuse(0, 2, 15);
        Checks.due("signal", x.signal(1, 0, 1), false);
        Checks.due("it lies on a disk", x.replica(0, 0, 1), 3);
        Checks.due("events", x.workflow(0, 2), 2);
        Checks.due("signals", x.workflow(0, 5), 0);
        Checks.dueThrown("event 2", NoSuchElementException.class, () -> x.event(0, 2, 0));
        Checks.due("event 1", x.event(0, 1, 0), 1);
        x.power(0, 1, true);
        Checks.due("the new leader has it", x.workflow(0, 2) * 10 + x.workflow(0, 5), 31);
        Checks.due("event 2", x.event(0, 2, 0), 8);
    }

    /** Promise 18, what 3 to 6, among them "5: SIGNALS that no W took (also when it has ended)". */
    private static void promise18TheOthers() {
        Weave x = new Weave();
        Checks.tell(x, 7, "b=C6(0);c=C6(0);d=W;");
        Checks.tell(x, 7, "b=C6(0);c=C6(0);d=W;");
        Checks.tell(x, 6, "d=A0(0);");
        x.start(1, 7, 0);
        x.tick(1);
        int[] parent = {2, 0, 3, 7, 2, 0, -1};
        int[] child = {0, 0, 2, 6, 0, 0, 1};
        for (int what = 0; what < 7; what++) {
            Checks.due("the parent's " + what, x.workflow(1, what), parent[what]);
            Checks.due("a child's " + what, x.workflow(3, what), child[what]);
            Checks.due("the other child's " + what, x.workflow(7, what), child[what]);
        }
        x.signal(1, 3, 0);
        x.signal(2, 3, 0);
        Checks.due("signals", x.workflow(3, 5), 2);
        x.finish(x.poll(0), 0);
        Checks.due("it has ended", x.workflow(3, 0), 4);
        Checks.due("signals of one that has ended", x.workflow(3, 5), 2);
        x.power(3, 0, false);
        Checks.due("under another leader", x.workflow(3, 5), 2);
    }

    // ---- Promise 19 ----

    /** Promise 19: "NoSuchElementException: ... none such (that first); IndexOutOfBoundsException: another what". */
    private static void promise19Refused() {
        Weave x = Checks.with("b=W;c=W;");
        x.start(0, 0, 0);
        x.signal(3, 0, 4);
        for (int round = 0; round < 2; round++) {
            for (int what = -1; what <= 4; what++) {
                int one = what;
                for (int k : new int[] {MIN, -2, -1, 2, 3, 59, 60, MAX}) {
                    Checks.dueThrown("event " + k, NoSuchElementException.class, () -> x.event(0, k, one));
                }
                for (int w : new int[] {MIN, -4, -1, 1, 4, 63, 64, MAX}) {
                    Checks.dueThrown("workflow " + w, NoSuchElementException.class, () -> x.event(w, 0, one));
                }
            }
            for (int what : Checks.outside(0, 3)) {
                for (int k = 0; k < 2; k++) {
                    int one = k;
                    Checks.dueThrown("what " + what, IndexOutOfBoundsException.class, () -> x.event(0, one, what));
                }
            }
            int[] want = {8, 4, 0, 3};
            for (int what = 0; what < 4; what++) {
                Checks.due("what " + what, x.event(0, 1, what), want[what]);
            }
            if (round == 0) {
                Checks.stop(x, 0);
            }
        }
    }

    /** Promise 19: all 60 EVENTS of a history, and none behind. */
    private static void promise19SixtyEvents() {
        Weave x = Checks.with("0:b=C7(a);a=a-1;I(a)0;E(9);");
        x.start(0, 0, 58);
        for (int k = 1; k < 59; k++) {
            Checks.due("kind of " + k, x.event(0, k, 0), 6);
            Checks.due("b of " + k, x.event(0, k, 2), 59 - k);
        }
        Checks.due("the last one", x.event(0, 59, 0) * 100 + x.event(0, 59, 1), 1009);
        Checks.dueThrown("event 60", NoSuchElementException.class, () -> x.event(0, 60, 0));
        Checks.dueThrown("event -1", NoSuchElementException.class, () -> x.event(0, -1, 0));
    }

    // ---- Promise 20 ----

    /** Promise 20: "NONE if there is none such, or for another what". */
    private static void promise20None() {
        Weave x = new Weave();
        for (int s = 0; s < 4; s++) {
            for (int what : Checks.outside(0, 6)) {
                Checks.due("what " + what, x.shard(s, what), -1);
            }
        }
        for (int s : Checks.outside(0, 3)) {
            for (int what = -1; what <= 7; what++) {
                Checks.due("shard " + s, x.shard(s, what), -1);
            }
        }
    }

    /** Promise 20: what 0 to 6, "(3 to 5 as it was when it last worked)". */
    private static void promise20AsItLastWorked() {
        Weave x = Checks.with("b=C2(0);c=A0(0);");
        for (int n = 0; n < 3; n++) {
            x.start(1 + 4 * n, 0, 0);
        }
        x.poll(0);
        x.poll(0);
        int[] want = {0, 0, 3, 3, 3, 3, 2};
        for (int what = 0; what < 7; what++) {
            Checks.due("what " + what, x.shard(1, what), want[what]);
        }
        Checks.stop(x, 1);
        x.tick(20);
        int[] stopped = {-1, 0, 3, 3, 3, 3, 0};
        for (int what = 0; what < 7; what++) {
            Checks.due("what " + what + " without a leader", x.shard(1, what), stopped[what]);
        }
        x.power(1, 0, false);
        x.power(1, 1, true);
        x.power(1, 2, true);
        int[] again = {1, 1, 3, 3, 3, 3, 0};
        for (int what = 0; what < 7; what++) {
            Checks.due("what " + what + " with another leader", x.shard(1, what), again[what]);
        }
        x.cancel(1);
        Checks.due("a task less", x.shard(1, 5), 2);
        Checks.due("workflows that have ended count", x.shard(1, 3), 3);
    }

    /** Promise 20: a STARTED, a CHILD or a WORK that is not done is not seen. */
    private static void promise20WhatIsNotDone() {
        for (int bytes = 0; bytes <= 48; bytes += 8) {
            Weave x = Checks.with("b=C2(0);c=A0(0);");
            x.power(1, 2, false);
            x.fuse(1, 1, bytes);
            x.start(1, 0, 0);
            Checks.due("workflows with " + bytes, x.shard(1, 3), bytes < 16 ? 0 : 1);
            Checks.due("messages", x.shard(1, 4), bytes < 32 ? 0 : 1);
            Checks.due("tasks", x.shard(1, 5), bytes < 48 ? 0 : 1);
        }
    }

    // ---- Promise 21 ----

    /** Promise 21: "NONE if there is none such, or for another what". */
    private static void promise21None() {
        for (int n = 3; n <= 5; n++) {
            Weave x = new Weave();
            x.replicas(3, n);
            for (int what : Checks.outside(0, 3)) {
                Checks.due("what " + what, x.replica(3, n - 1, what), -1);
            }
            for (int what = -1; what <= 4; what++) {
                for (int r : Checks.outside(0, n - 1)) {
                    Checks.due("replica " + r, x.replica(3, r, what), -1);
                }
                for (int s : Checks.outside(0, 3)) {
                    Checks.due("shard " + s, x.replica(s, 0, what), -1);
                }
            }
            Checks.due("the last one", x.replica(3, n - 1, 0), 1);
        }
    }

    /** Promise 21: "1: whole RECORDS, 2: bytes behind these, 3: bytes that its FUSE still lets through". */
    private static void promise21Bytes() {
        for (int bytes = 0; bytes <= 33; bytes++) {
            Weave x = Checks.with("b=A0(0);");
            x.fuse(0, 2, bytes);
            x.start(0, 0, 0);
            boolean up = bytes >= 32;
            int[] want = {up ? 1 : 0, Math.min(bytes, 32) / 16, up ? 0 : bytes % 16, up ? bytes - 32 : -1};
            for (int what = 0; what < 4; what++) {
                Checks.due("what " + what + " with " + bytes, x.replica(0, 2, what), want[what]);
            }
        }
    }

    // ---- Promise 22 ----

    /** Promise 22: "NONE if there is no such REPLICA or byte (0 .. 511), or no byte of the BLOCK is written now". */
    private static void promise22None() {
        Weave x = Checks.with("b=W;");
        x.start(0, 0, 0);
        for (int i : Checks.outside(0, 511)) {
            Checks.due("byte " + i, x.disk(0, 0, 0, i), -1);
        }
        for (int block : new int[] {MIN, -4194304, -2, -1, 1, 2, 4194303, 4194304, 8388608, 16777216, MAX}) {
            Checks.due("block " + block, x.disk(0, 0, block, 0), -1);
            Checks.due("block " + block, x.disk(0, 0, block, 15), -1);
        }
        for (int s : Checks.outside(0, 3)) {
            Checks.due("shard " + s, x.disk(s, 0, 0, 15), -1);
        }
        for (int r : Checks.outside(0, 2)) {
            Checks.due("replica " + r, x.disk(0, r, 0, 15), -1);
        }
        Checks.due("byte 15", x.disk(0, 2, 0, 15), 1);
        Checks.due("byte 16", x.disk(0, 2, 0, 16), 0);
        Checks.due("byte 511", x.disk(0, 2, 0, 511), 0);
        Checks.due("another shard's", x.disk(1, 0, 0, 15), -1);
    }

    /** Promise 22: a BLOCK of which just one byte is written, or has gone. */
    private static void promise22OneByteOfABlock() {
        for (int bytes = 0; bytes <= 2; bytes++) {
            Weave x = Checks.with("0:b=W;G0;");
            x.start(0, 0, 0);
            for (int i = 1; i < 32; i++) {
                x.signal(i, 0, i);
            }
            x.fuse(0, 2, bytes);
            x.signal(32, 0, 32);
            Checks.due("bytes", x.replica(0, 2, 1) * 16 + x.replica(0, 2, 2), 512 + bytes);
            Checks.due("byte 0 of block 1 with " + bytes, x.disk(0, 2, 1, 0), bytes == 0 ? -1 : 8);
            Checks.due("byte 511 of block 1", x.disk(0, 2, 1, 511), bytes == 0 ? -1 : 0);
            Checks.due("byte 511 of block 0", x.disk(0, 2, 0, 511), 1);
            Checks.due("block 2", x.disk(0, 2, 2, 0), -1);
            x.power(0, 0, false);
            x.power(0, 1, false);
            x.power(0, 2, true);
            Checks.due("it has gone", x.disk(0, 2, 1, 0), -1);
            x.power(0, 1, true);
            Checks.due("it is written", x.disk(0, 2, 1, 0), 8);
            Checks.due("the record behind", x.disk(0, 2, 1, 16), 13);
        }
    }

    /** Promise 22: "0 .. 255": a byte above 127; "0 where none is written as yet, or has gone". */
    private static void promise22Bytes() {
        Weave x = Checks.with("c=W;c=W;");
        x.start(0, 0, -1);
        x.start(4, 0, 128);
        Checks.due("255", x.disk(0, 0, 0, 7), 255);
        Checks.due("128", x.disk(0, 0, 0, 26), 128);
        x.fuse(0, 1, 0);
        x.fuse(0, 2, 0);
        Checks.due("not done", x.signal(1, 0, -1), false);
        Checks.due("a record of replica 0 alone", x.disk(0, 0, 0, 35), 255);
        x.power(0, 0, false);
        x.power(0, 1, true);
        x.power(0, 2, true);
        x.power(0, 0, true);
        Checks.due("LEADER stands there now", x.disk(0, 0, 0, 32), 13);
        Checks.due("its bytes have gone", x.disk(0, 0, 0, 35), 0);
        Checks.due("none is written behind", x.disk(0, 0, 0, 48), 0);
    }
}
