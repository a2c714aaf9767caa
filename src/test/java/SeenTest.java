import java.util.NoSuchElementException;

/** Promises 18 to 22: workflow, event, shard, replica and disk. */
public final class SeenTest {
    private static final int[] FAR = {Integer.MIN_VALUE, Integer.MAX_VALUE};

    public static void main(String[] args) {
        workflows();
        lastWorked();
        events();
        shards();
        replicas();
        disks();
        goneBytes();
        Checks.end();
    }

    private static void dueWorkflow(Weave x, int w, int... want) {
        for (int what = 0; what < 7; what++) {
            Checks.due("workflow(" + w + ", " + what + ")", x.workflow(w, what), want[what]);
        }
    }

    private static void workflows() {
        Weave x = new Weave();
        Checks.tell(x, 2, "b=A0(0);");
        Checks.tell(x, 3, "T(5);E(a);");
        Checks.tell(x, 4, "b=W;c=C3(9);d=C0(0);e=J(c);f=J(d);E(-7);");
        x.start(0, 2, 0);
        dueWorkflow(x, 0, 0, 0, 2, 2, 0, 0, -1);
        x.start(4, 3, 0);
        dueWorkflow(x, 4, 1, 0, 2, 3, 0, 0, -1);
        x.start(8, 4, 0);
        dueWorkflow(x, 8, 2, 0, 1, 4, 0, 0, -1);
        x.signal(1, 8, 1);
        x.signal(2, 8, 1);
        dueWorkflow(x, 8, 3, 0, 5, 4, 2, 1, -1);
        x.tick(1);
        dueWorkflow(x, 3, 1, 0, 2, 3, 0, 0, 8);
        dueWorkflow(x, 8, 3, 0, 6, 4, 2, 1, -1);
        x.tick(5);
        dueWorkflow(x, 3, 4, 9, 4, 3, 0, 0, 8);
        dueWorkflow(x, 8, 4, -7, 8, 4, 2, 1, -1);
        for (int what : new int[] {-1, 7, FAR[0], FAR[1]}) {
            Checks.due("another what", x.workflow(8, what), -1);
        }
        for (int w : new int[] {-1, -4, 1, 12, 60, 63, 64, FAR[0], FAR[1]}) {
            for (int what = 0; what < 7; what++) {
                Checks.due("no workflow " + w, x.workflow(w, what), -1);
            }
        }
    }

    private static void lastWorked() {
        Weave x = Checks.with("b=W;c=A0(b);d=C1(0);E(5);");
        x.start(0, 0, 0);
        x.fuse(0, 1, 0);
        x.fuse(0, 2, 0);
        Checks.due("signal", x.signal(1, 0, 3), false);
        Checks.due("it lies on a disk", x.replica(0, 0, 1), 2);
        dueWorkflow(x, 0, 2, 0, 1, 0, 0, 0, -1);
        x.power(0, 1, true);
        dueWorkflow(x, 0, 0, 0, 3, 0, 0, 0, -1);
        x.poll(0);
        x.fuse(0, 0, 16);
        Checks.due("finish", x.finish(1, 7), true);
        dueWorkflow(x, 0, 5, 0, 4, 0, 0, 0, -1);
        Checks.due("no leader", x.shard(0, 0), -1);
        Checks.due("tasks, and messages", x.shard(0, 5) * 10 + x.shard(0, 4), 0);
        x.power(0, 2, true);
        dueWorkflow(x, 0, 4, 5, 6, 0, 1, 0, -1);
        Checks.due("messages", x.shard(0, 4), 1);
    }

    private static void events() {
        Weave x = Checks.with("b=W;E(b);");
        x.start(1, 0, -3);
        x.signal(6, 1, 44);
        int[][] want = {{0, 0, -3, 1}, {8, 44, 0, 6}, {10, 44, 0, 0}};
        for (int k = 0; k < 3; k++) {
            int one = k;
            for (int what = 0; what < 4; what++) {
                Checks.due("event(1, " + k + ", " + what + ")", x.event(1, k, what), want[k][what]);
            }
            for (int what : new int[] {-1, 4, FAR[0], FAR[1]}) {
                Checks.dueThrown("what " + what, IndexOutOfBoundsException.class, () -> x.event(1, one, what));
            }
        }
        for (int what : new int[] {0, 3, 4, -1}) {
            for (int k : new int[] {-1, 3, 59, 60, FAR[0], FAR[1]}) {
                Checks.dueThrown("no event " + k, NoSuchElementException.class, () -> x.event(1, k, what));
            }
            for (int w : new int[] {-1, -3, 0, 5, 64, FAR[0], FAR[1]}) {
                Checks.dueThrown("no workflow " + w, NoSuchElementException.class, () -> x.event(w, 0, what));
            }
        }
        x.power(1, 0, false);
        x.power(1, 1, false);
        Checks.due("without a leader, too", Checks.history(x, 1), "0(0,-3)@1 8(44,0)@6 10(44,0)");
    }

    private static void shards() {
        Weave x = Checks.with("b=C2(0);c=A0(0);");
        x.replicas(1, 4);
        x.start(1, 0, 0);
        x.start(5, 0, 0);
        x.poll(0);
        int[] want = {0, 0, 4, 2, 2, 2, 1};
        int[] other = {0, 0, 3, 0, 0, 0, 0};
        int[] next = {1, 1, 4, 2, 2, 2, 0};
        int[] stopped = {-1, 1, 4, 2, 2, 2, 0};
        for (int what = 0; what < 7; what++) {
            Checks.due("shard(1, " + what + ")", x.shard(1, what), want[what]);
            Checks.due("shard(0, " + what + ")", x.shard(0, what), other[what]);
        }
        x.power(1, 0, false);
        for (int what = 0; what < 7; what++) {
            Checks.due("with another leader " + what, x.shard(1, what), next[what]);
        }
        x.poll(0);
        x.power(1, 3, false);
        for (int what = 0; what < 7; what++) {
            Checks.due("without a leader " + what, x.shard(1, what), stopped[what]);
        }
        for (int bad : new int[] {-1, 7, FAR[0], FAR[1]}) {
            Checks.due("another what", x.shard(0, bad), -1);
        }
        for (int bad : new int[] {-1, 4, FAR[0], FAR[1]}) {
            Checks.due("no shard", x.shard(bad, 2), -1);
        }
    }

    private static void replicas() {
        Weave x = Checks.with("b=W;");
        x.fuse(2, 1, 40);
        x.fuse(2, 2, 9);
        x.start(2, 0, 0);
        int[][] want = {{1, 1, 0, -1}, {1, 1, 0, 24}, {0, 0, 9, -1}};
        for (int r = 0; r < 3; r++) {
            for (int what = 0; what < 4; what++) {
                Checks.due("replica(2, " + r + ", " + what + ")", x.replica(2, r, what), want[r][what]);
            }
        }
        for (int bad : new int[] {-1, 4, FAR[0], FAR[1]}) {
            Checks.due("another what", x.replica(2, 0, bad), -1);
            Checks.due("no shard", x.replica(bad, 0, 0), -1);
            Checks.due("no replica", x.replica(2, bad, 0), -1);
        }
        Checks.due("no replica 3", x.replica(2, 3, 0), -1);
    }

    private static void disks() {
        Weave x = new Weave();
        for (int version = 0; version < 3; version++) {
            Checks.tell(x, 6, "0:b=W;G0;");
        }
        x.start(3, 6, 0x01020304);
        x.start(0x7A0B0C0F, 6, -2);
        int[] second = {16, 0, 0, 0, 0, 0, 22, 255, 255, 255, 254, 0x7A, 0x0B, 0x0C, 0x0F, 1};
        int[] first = {0, 0, 0, 0, 0, 0, 22, 1, 2, 3, 4, 0, 0, 0, 3, 1};
        for (int i = 0; i < 512; i++) {
            int want = i < 16 ? first[i] : i < 32 ? second[i - 16] : 0;
            Checks.due("byte " + i, x.disk(3, 1, 0, i), want);
        }
        for (int bad : new int[] {-1, 1, FAR[0], FAR[1]}) {
            Checks.due("no block " + bad, x.disk(3, 0, bad, 0), -1);
        }
        for (int bad : new int[] {-1, 512, FAR[0], FAR[1]}) {
            Checks.due("no byte " + bad, x.disk(3, 0, 0, bad), -1);
        }
        for (int bad : new int[] {-1, 4, FAR[0], FAR[1]}) {
            Checks.due("no shard " + bad, x.disk(bad, 0, 0, 0), -1);
            Checks.due("no replica " + bad, x.disk(3, bad, 0, 0), -1);
        }
        Checks.due("no replica 3", x.disk(3, 3, 0, 0), -1);
        for (int i = 0; i < 32; i++) {
            x.signal(i + 1, 3 + i % 2 * 4, i);
        }
        Checks.due("records", x.replica(3, 0, 1), 34);
        Checks.due("record 33 lies in the next block", Checks.record(x, 3, 0, 33), "1.8/0(31,0,32)");
        Checks.due("a byte that is not written", x.disk(3, 0, 1, 32), 0);
        Checks.due("the block behind", x.disk(3, 0, 2, 0), -1);
    }

    private static void goneBytes() {
        Weave x = Checks.with("b=W;c=W;d=W;");
        x.start(0, 0, 0);
        x.fuse(0, 1, 5);
        x.signal(1, 0, 9);
        Checks.due("five bytes", x.replica(0, 1, 2), 5);
        Checks.due("one of them", x.disk(0, 1, 0, 16), 8);
        x.power(0, 2, false);
        x.power(0, 0, false);
        x.power(0, 1, true);
        Checks.due("it is alone", x.shard(0, 0), -1);
        Checks.due("they are gone", x.disk(0, 1, 0, 16), 0);
        Checks.due("bytes", x.replica(0, 1, 2), 0);
        Weave y = Checks.with("b=W;");
        y.fuse(0, 2, 1);
        y.start(0, 0, 0);
        Checks.due("a byte of a block", y.disk(0, 2, 0, 0), 0);
        y.power(0, 0, false);
        y.power(0, 1, false);
        y.power(0, 2, true);
        Checks.due("no byte of it is written now", y.disk(0, 2, 0, 0), -1);
    }
}
