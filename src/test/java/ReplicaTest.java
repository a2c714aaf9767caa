/** Promises 15 to 17: replicas, power and fuse. */
public final class ReplicaTest {
    private static final int MAX = Integer.MAX_VALUE;
    private static final int MIN = Integer.MIN_VALUE;

    public static void main(String[] args) {
        numbers();
        onlyAtFirst();
        oneRecordOrATermAlone();
        renewed();
        powerArguments();
        majorities();
        comesUp();
        fuseArguments();
        fusesByBytes();
        fusesGo();
        Checks.end();
    }

    private static void numbers() {
        Weave x = new Weave();
        for (int s : new int[] {-1, 4, MIN, MAX}) {
            Checks.due("no shard " + s, x.replicas(s, 3), false);
        }
        for (int n : new int[] {2, 6, 0, -3, MIN, MAX}) {
            Checks.due("not " + n, x.replicas(0, n), false);
            Checks.due("replicas", x.shard(0, 2), 3);
        }
        for (int n = 5; n >= 3; n--) {
            Checks.due("replicas(0, " + n + ")", x.replicas(0, n), true);
            Checks.due("replicas", x.shard(0, 2), n);
            Checks.due("the last one", x.replica(0, n - 1, 0), 1);
            Checks.due("behind the last one", x.replica(0, n, 0), -1);
            Checks.due("another shard's", x.shard(1, 2), 3);
        }
    }

    private static void onlyAtFirst() {
        Weave x = Checks.with("b=W;");
        x.start(0, 0, 0);
        Checks.due("it has a record", x.replicas(0, 3), false);
        Checks.due("another shard", x.replicas(1, 4), true);
        x.power(1, 0, false);
        Checks.due("a term", x.shard(1, 1), 1);
        Checks.due("it has another term", x.replicas(1, 4), false);
        Checks.due("replicas", x.shard(1, 2), 4);
        x.fuse(2, 0, 0);
        Checks.due("start", x.start(2, 0, 0), -1);
        Checks.due("an election", x.replicas(2, 3), false);
        x.fuse(3, 1, 16);
        x.power(3, 2, false);
        x.power(3, 0, false);
        Checks.due("the term is 0 without a leader", x.shard(3, 1) * 10 + x.shard(3, 0), -1);
        Checks.due("no records", x.replicas(3, 5), true);
        Checks.due("it works", x.start(3, 0, 0), 3);
    }

    private static void oneRecordOrATermAlone() {
        Weave x = Checks.with("b=W;");
        x.fuse(0, 1, 0);
        x.fuse(0, 2, 0);
        Checks.due("not done", x.start(0, 0, 0), -1);
        Checks.due("no leader, term 0", x.shard(0, 0) * 10 + x.shard(0, 1), -10);
        Checks.due("one replica has a whole record", x.replicas(0, 3), false);
        Checks.due("nothing has changed", x.replica(0, 1, 0), 0);
        x.fuse(1, 1, 5);
        x.power(1, 0, false);
        Checks.due("LEADER is not done, but it was of term 1", x.shard(1, 0) * 10 + x.shard(1, 1), -9);
        Checks.due("no whole record", x.replica(1, 1, 1) + x.replica(1, 2, 1), 0);
        Checks.due("another term", x.replicas(1, 3), false);
        x.fuse(2, 1, 50);
        x.power(2, 2, false);
        Checks.due("replicas", x.replicas(2, 3), true);
        Checks.due("no fuse, and up", x.replica(2, 1, 3) * 10 + x.replica(2, 2, 0), -9);
    }

    private static void renewed() {
        Weave x = Checks.with("E(2);");
        x.replicas(0, 5);
        x.fuse(0, 0, 12);
        x.fuse(0, 4, 10);
        x.power(0, 3, false);
        x.power(0, 2, false);
        Checks.due("the leader goes down, two are left", x.start(0, 0, 0), -1);
        Checks.due("no leader, term 0", x.shard(0, 0) * 10 + x.shard(0, 1), -10);
        Checks.due("bytes on its disk", x.replica(0, 0, 2), 12);
        Checks.due("a byte", x.disk(0, 0, 0, 1), 0);
        Checks.due("replicas", x.replicas(0, 4), true);
        for (int r = 0; r < 4; r++) {
            Checks.due("up", x.replica(0, r, 0), 1);
            Checks.due("records and bytes", x.replica(0, r, 1) + x.replica(0, r, 2), 0);
            Checks.due("no fuse", x.replica(0, r, 3), -1);
            Checks.due("an empty disk", x.disk(0, r, 0, 0), -1);
        }
        Checks.due("leader", x.shard(0, 0), 0);
        Checks.due("start", x.start(0, 0, 0), 0);
        Checks.due("the log", Checks.log(x, 0, 3), "0.0/0(0,0,0) 0.10/0(2,0,0)");
    }

    private static void powerArguments() {
        Weave x = new Weave();
        for (boolean up : new boolean[] {true, false}) {
            for (int s : new int[] {-1, 4, MIN, MAX}) {
                Checks.due("no shard " + s, x.power(s, 0, up), false);
            }
            for (int r : new int[] {-1, 3, 5, MIN, MAX}) {
                Checks.due("no replica " + r, x.power(0, r, up), false);
            }
        }
        Checks.due("it is up", x.power(0, 1, true), false);
        Checks.due("down", x.power(0, 1, false), true);
        Checks.due("it is down", x.power(0, 1, false), false);
        Checks.due("up", x.power(0, 1, true), true);
        Checks.due("a follower's power leads to no election", x.shard(0, 1), 0);
        x.replicas(0, 5);
        Checks.due("the fifth one", x.power(0, 4, false), true);
    }

    private static void majorities() {
        for (int n = 3; n <= 5; n++) {
            Weave x = Checks.with("E(1);");
            x.replicas(2, n);
            int most = n / 2 + 1;
            for (int left = n - 1; left >= most; left--) {
                x.power(2, left, false);
                Checks.due("it works with " + left + " of " + n, x.shard(2, 0), 0);
                Checks.due("its term", x.shard(2, 1), 0);
            }
            x.power(2, most - 1, false);
            Checks.due("half of " + n + " are too few", x.shard(2, 0), -1);
            Checks.due("start", x.start(2, 0, 0), -1);
            Checks.due("no election", x.shard(2, 1), 0);
            x.power(2, n - 1, true);
            Checks.due("an election", x.shard(2, 1), 1);
            Checks.due("its leader", x.shard(2, 0), 0);
            Checks.due("start", x.start(2, 0, 0), 2);
            Checks.due("the one that came up has all", Checks.log(x, 2, n - 1),
                "0.13/1(0,0,0) 0.0/1(0,0,2) 0.10/1(1,0,0)");
            for (int r = most - 1; r < n - 1; r++) {
                Checks.due("another one comes up", x.power(2, r, true), true);
                Checks.due("its log", Checks.log(x, 2, r), Checks.log(x, 2, 0));
            }
            x.power(2, 0, false);
            Checks.due("the leader goes down", x.shard(2, 1), 2);
            Checks.due("the next one", x.shard(2, 0), 1);
        }
    }

    private static void comesUp() {
        Weave x = Checks.with("b=W;c=W;d=W;");
        x.start(0, 0, 0);
        x.fuse(0, 2, 21);
        x.signal(1, 0, 5);
        x.signal(2, 0, 6);
        Checks.due("it is down", x.replica(0, 2, 0), 0);
        Checks.due("a record", x.replica(0, 2, 1), 2);
        Checks.due("bytes behind", x.replica(0, 2, 2), 5);
        Checks.due("its fuse is no more", x.replica(0, 2, 3), -1);
        Checks.due("the last byte", x.disk(0, 2, 0, 36), 0);
        Checks.due("the first byte behind", x.disk(0, 2, 0, 32), 8);
        x.power(0, 2, true);
        Checks.due("records", x.replica(0, 2, 1) * 100 + x.replica(0, 2, 2), 300);
        Checks.due("the log", Checks.log(x, 0, 2), "0.0/0(0,0,0) 0.8/0(5,0,1) 0.8/0(6,0,2)");
        Checks.due("the term stays", x.shard(0, 1), 0);
        x.fuse(0, 2, 3);
        x.signal(3, 0, 7);
        x.power(0, 0, false);
        x.power(0, 2, true);
        Checks.due("without a leader what is not whole goes, too", Checks.log(x, 0, 2),
            "0.0/0(0,0,0) 0.8/0(5,0,1) 0.8/0(6,0,2) 0.8/0(7,0,3) 0.10/0(0,0,0) 0.13/1(1,0,0)");
    }

    private static void fuseArguments() {
        Weave x = new Weave();
        for (int s : new int[] {-1, 4, MIN, MAX}) {
            Checks.due("no shard " + s, x.fuse(s, 0, 1), false);
        }
        for (int r : new int[] {-1, 3, 5, MIN, MAX}) {
            Checks.due("no replica " + r, x.fuse(0, r, 1), false);
        }
        for (int bytes : new int[] {-1, 100001, MIN, MAX}) {
            Checks.due("not " + bytes, x.fuse(0, 0, bytes), false);
            Checks.due("no fuse", x.replica(0, 0, 3), -1);
        }
        Checks.due("100000", x.fuse(0, 0, 100000), true);
        Checks.due("so many", x.replica(0, 0, 3), 100000);
        Checks.due("0 in its place", x.fuse(0, 0, 0), true);
        Checks.due("none are left", x.replica(0, 0, 3), 0);
        x.power(0, 1, false);
        Checks.due("it is down", x.fuse(0, 1, 5), false);
    }

    private static void fusesByBytes() {
        for (int bytes = 0; bytes <= 32; bytes++) {
            Weave x = Checks.with("b=W;");
            x.fuse(0, 2, bytes);
            x.start(0, 0, 0);
            boolean down = bytes < 16;
            Checks.due("up with " + bytes, x.replica(0, 2, 0), down ? 0 : 1);
            Checks.due("records", x.replica(0, 2, 1), down ? 0 : 1);
            Checks.due("bytes", x.replica(0, 2, 2), down ? bytes : 0);
            Checks.due("the fuse", x.replica(0, 2, 3), down ? -1 : bytes - 16);
            Checks.due("it is done", x.workflow(0, 0), 2);
            Checks.due("leader", x.shard(0, 0), 0);
            Checks.due("the disk", x.disk(0, 2, 0, 0), bytes == 0 ? -1 : 0);
        }
    }

    private static void fusesGo() {
        Weave x = Checks.with("E(0);");
        x.fuse(0, 1, 50);
        x.start(0, 0, 0);
        Checks.due("the fuse is shorter", x.replica(0, 1, 3), 18);
        x.fuse(0, 1, 70);
        Checks.due("another one", x.replica(0, 1, 3), 70);
        x.power(0, 1, false);
        Checks.due("down without a fuse", x.replica(0, 1, 3), -1);
        x.power(0, 1, true);
        Checks.due("up without a fuse", x.replica(0, 1, 3), -1);
        x.start(4, 0, 0);
        Checks.due("the log", x.replica(0, 1, 1), 4);
    }
}
