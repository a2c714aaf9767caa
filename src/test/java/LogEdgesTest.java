/** The edges of promises 15 to 17, and of the Terms SHARDS, LOGS, FUSES, A RECORD IS DONE and AN ELECTION. */
public final class LogEdgesTest {
    private static final int MAX = Integer.MAX_VALUE;
    private static final int MIN = Integer.MIN_VALUE;

    public static void main(String[] args) {
        Checks.runAll(LogEdgesTest.class);
    }

    /** Shard 0 has n replicas and a workflow that takes signals. */
    private static Weave signals(int n) {
        Weave x = Checks.with("0:b=W;G0;");
        x.replicas(0, n);
        x.start(0, 0, 0);
        return x;
    }

    private static int leaderAndTerm(Weave x) {
        return 10 * x.shard(0, 0) + x.shard(0, 1);
    }

    // ---- SHARDS ----

    /** SHARDS: "0 .. 3 have three REPLICAS each at first, numbered from 0, all up". */
    private static void shardsAtFirst() {
        Weave x = new Weave();
        for (int s = 0; s < 4; s++) {
            Checks.due("replicas of " + s, x.shard(s, 2), 3);
            for (int r = 0; r < 3; r++) {
                Checks.due("replica " + r + " is up", x.replica(s, r, 0), 1);
            }
            Checks.due("replica -1", x.replica(s, -1, 0), -1);
            Checks.due("replica 3", x.replica(s, 3, 0), -1);
            Checks.due("leader and term", x.shard(s, 0) * 10 + x.shard(s, 1), 0);
            Checks.due("no record of that", x.replica(s, 0, 1), 0);
        }
        Checks.due("shard -1", x.shard(-1, 2), -1);
        Checks.due("shard 4", x.shard(4, 2), -1);
    }

    // ---- LOGS ----

    /** LOGS: "BLOCKS of 512 bytes ... RECORDS of 16 bytes lie one behind the other, 32 in a BLOCK": 31, 32 and 33. */
    private static void logsBlocks() {
        for (int records : new int[] {1, 31, 32, 33}) {
            Weave x = signals(3);
            for (int i = 1; i < records; i++) {
                x.signal(i, 0, i);
            }
            int blocks = records <= 32 ? 1 : 2;
            Checks.due("records", x.replica(0, 1, 1), records);
            Checks.due("the last block", x.disk(0, 1, blocks - 1, 0) >= 0, true);
            Checks.due("the block behind", x.disk(0, 1, blocks, 0), -1);
            Checks.due("byte 15 of the last record", x.disk(0, 1, (records - 1) / 32, (records - 1) % 32 * 16 + 15), 1);
            Checks.due("the byte behind it", records % 32 == 0 ? 0 : x.disk(0, 1, records / 32, records % 32 * 16), 0);
            if (records > 1) {
                Checks.due("the last record", Checks.record(x, 0, 1, records - 1),
                    "0.8/0(" + (records - 1) + ",0," + (records - 1) + ")");
            }
        }
    }

    /** LOGS: "Byte 0 of a RECORD is 16 * n + kind ... a ... b ... c (each the highest byte first); 15 is 1". */
    private static void logsBytesOfARecord() {
        Weave x = Checks.with("b=A9(-2);");
        Checks.tell(x, 1, "");
        for (int n = 0; n < 15; n++) {
            x.start(4 * n, 1, 0);
        }
        int place = x.replica(0, 0, 1);
        Checks.due("records", place, 30);
        x.start(0x71020300, 0, 0x80FF7F01);
        int[] started = {240, 0, 0, 0, 0, 0, 0, 0x80, 0xFF, 0x7F, 0x01, 0x71, 0x02, 0x03, 0x00, 1};
        int[] work = {241, 0, 0, 0, 0, 0, 9, 255, 255, 255, 254, 0, 0, 0, 0, 1};
        for (int i = 0; i < 16; i++) {
            for (int r = 0; r < 3; r++) {
                Checks.due("byte " + i + " of STARTED", x.disk(0, r, 0, 480 + i), started[i]);
                Checks.due("byte " + i + " of WORK", x.disk(0, r, 0, 496 + i), work[i]);
            }
        }
        x.fail(x.poll(9));
        x.power(0, 0, false);
        x.signal(MAX, 60, MIN);
        int[][] behind = {
            {255, 0, 0, 0, 0, 0, 2, 0, 0, 0, 2, 0, 0, 0, 0, 1},
            {13, 0, 1, 0, 0, 0, 1, 0, 0, 0, 0, 0, 0, 0, 0, 1},
            {248, 0, 1, 128, 0, 0, 0, 0, 0, 0, 0, 127, 255, 255, 255, 1},
        };
        for (int i = 0; i < 48; i++) {
            Checks.due("byte " + i + " of TRIED, LEADER, SIGNAL", x.disk(0, 2, 1, i), behind[i / 16][i % 16]);
        }
    }

    /** LOGS: GONE: "n 0, a the place of the message's RECORD, the first one of all has 0", above 255, too. */
    private static void logsPlacesOfMessages() {
        Weave x = Checks.with("0:b=C7(0);G0;");
        for (int n = 0; n < 5; n++) {
            x.start(4 * n, 0, 0);
        }
        Checks.due("records", x.replica(0, 0, 1), 300);
        Checks.due("messages", x.shard(0, 4), 290);
        x.tick(1);
        Checks.due("messages", x.shard(0, 4), 0);
        int place = 300;
        for (int of = 0; of < 300; of++) {
            if (of % 60 > 0 && of % 60 < 59) {
                if (of < 3 || of > 250 && of < 260 || of == 298) {
                    Checks.due("GONE", Checks.record(x, 0, 1, place), "0.14/0(" + of + ",0,0)");
                }
                place++;
            }
        }
        Checks.due("records", x.replica(0, 0, 1), place);
    }

    /** LOGS: "1, 2 its TERM": term 255 and 256, whose first byte shows with the very last of an object's 512 calls. */
    private static void logsTermHasTwoBytes() {
        for (int term = 255; term <= 256; term++) {
            int[] want = {13, term / 256, term % 256};
            for (int i = 0; i < 3; i++) {
                TaskWeave x = new TaskWeave();
                x.power(0, 0, false);
                for (int t = 2; t <= term; t++) {
                    x.power(0, 1, false);
                    x.power(0, 1, true);
                }
                int at = 16 * (term - 1) + i;
                Checks.due("byte " + i + " of LEADER " + term, x.disk(0, 1, at / 512, at % 512), want[i]);
            }
        }
    }

    // ---- Promise 15 ----

    /** Promise 15: "n REPLICAS (3 .. 5)", "no such SHARD or n". */
    private static void promise15Numbers() {
        for (int s = 0; s < 4; s++) {
            for (int n = 3; n <= 5; n++) {
                Weave x = new Weave();
                Checks.due("replicas(" + s + ", " + n + ")", x.replicas(s, n), true);
                Checks.due("replicas", x.shard(s, 2), n);
                for (int r = 0; r <= 5; r++) {
                    Checks.due("replica " + r, x.replica(s, r, 0), r < n ? 1 : -1);
                    Checks.due("its fuse", x.replica(s, r, 3), -1);
                }
                for (int bad : Checks.outside(3, 5)) {
                    Checks.due("replicas(" + s + ", " + bad + ")", x.replicas(s, bad), false);
                }
                Checks.due("replicas", x.shard(s, 2), n);
                Checks.due("another shard's", x.shard((s + 1) % 4, 2), 3);
            }
        }
        Weave x = new Weave();
        for (int s : Checks.outside(0, 3)) {
            Checks.due("shard " + s, x.replicas(s, 3), false);
        }
    }

    /** Promise 15: "false ... if a REPLICA of it has whole RECORDS": 15 bytes are none, 16 are one. */
    private static void promise15WholeRecords() {
        for (int bytes = 0; bytes <= 16; bytes++) {
            Weave x = Checks.with("b=W;");
            x.power(0, 2, false);
            x.fuse(0, bytes < 16 ? 0 : 1, bytes % 16);
            Checks.due("start", x.start(0, 0, 0), -1);
            Checks.due("no leader of term 0", leaderAndTerm(x), -10);
            Checks.due("bytes of replica 0", x.replica(0, 0, 1) * 16 + x.replica(0, 0, 2), bytes);
            Checks.due("replicas with " + bytes, x.replicas(0, 4), bytes < 16);
            Checks.due("replicas", x.shard(0, 2), bytes < 16 ? 4 : 3);
            Checks.due("leader", x.shard(0, 0), bytes < 16 ? 0 : -1);
            Checks.due("a disk", x.disk(0, 0, 0, 0), bytes < 16 ? -1 : 0);
            Checks.due("start", x.start(0, 0, 0), bytes < 16 ? 0 : -1);
        }
    }

    /** Promise 15: a record on the last replica alone, or on one that is down, counts. */
    private static void promise15ARecordOfOne() {
        Weave x = Checks.with("b=W;");
        x.power(0, 2, false);
        x.fuse(0, 1, 0);
        Checks.due("start", x.start(0, 0, 0), -1);
        x.power(0, 0, false);
        Checks.due("all are down, replica 0 has it", x.replicas(0, 3), false);
        Checks.due("nothing has changed", x.replica(0, 0, 0) * 10 + x.replica(0, 0, 1), 1);
        Checks.due("term", x.shard(0, 1), 0);
    }

    /** Promise 15: "or it has another TERM than 0": though no disk has a whole record. */
    private static void promise15AnotherTerm() {
        Weave x = new Weave();
        x.fuse(0, 1, 15);
        x.power(0, 0, false);
        Checks.due("no leader of term 1", leaderAndTerm(x), -9);
        for (int r = 0; r < 3; r++) {
            Checks.due("whole records", x.replica(0, r, 1), 0);
        }
        Checks.due("replicas", x.replicas(0, 3), false);
        Checks.due("nothing has changed", x.replica(0, 0, 0) + x.replica(0, 1, 0), 0);
    }

    /** Promise 15: "all up, without FUSES, LEADER 0 of TERM 0, their DISKS empty". */
    private static void promise15AllAnew() {
        for (int n = 3; n <= 5; n++) {
            Weave x = Checks.with("b=W;");
            x.replicas(0, 5);
            x.fuse(0, 0, 7);
            x.fuse(0, 1, 70);
            x.power(0, 2, false);
            x.power(0, 3, false);
            x.start(0, 0, 0);
            Checks.due("no leader", leaderAndTerm(x), -10);
            Checks.due("bytes", x.replica(0, 0, 2), 7);
            Checks.due("replicas", x.replicas(0, n), true);
            Checks.due("leader and term", leaderAndTerm(x), 0);
            for (int r = 0; r < n; r++) {
                int[] want = {1, 0, 0, -1};
                for (int what = 0; what < 4; what++) {
                    Checks.due("replica(0, " + r + ", " + what + ")", x.replica(0, r, what), want[what]);
                }
                Checks.due("its disk", x.disk(0, r, 0, 0), -1);
            }
            Checks.due("start", x.start(0, 0, 0), 0);
            Checks.due("its record", x.replica(0, n - 1, 1), 1);
        }
    }

    // ---- Promise 16 ----

    /** Promise 16: "false if there is none such, or it is so". */
    private static void promise16Refused() {
        for (int n = 3; n <= 5; n++) {
            Weave x = new Weave();
            x.replicas(2, n);
            for (boolean up : new boolean[] {true, false}) {
                for (int s : Checks.outside(0, 3)) {
                    Checks.due("shard " + s, x.power(s, 0, up), false);
                }
                for (int r : Checks.outside(0, n - 1)) {
                    Checks.due("replica " + r, x.power(2, r, up), false);
                }
            }
            Checks.due("replica 3 of another shard", x.power(1, 3, false), false);
            for (int r = n - 1; r >= 0; r--) {
                Checks.due("it is up", x.power(2, r, true), false);
                Checks.due("down", x.power(2, r, false), true);
                Checks.due("it is down", x.power(2, r, false), false);
                Checks.due("it is down", x.replica(2, r, 0), 0);
            }
            for (int r = 0; r < n; r++) {
                Checks.due("up", x.power(2, r, true), true);
                Checks.due("it is up", x.power(2, r, true), false);
            }
        }
    }

    /** Promise 16: "(a FUSE that it had is no more)". */
    private static void promise16NoFuse() {
        Weave x = signals(3);
        x.fuse(0, 2, 100);
        x.power(0, 2, false);
        Checks.due("down", x.replica(0, 2, 3), -1);
        x.power(0, 2, true);
        Checks.due("up", x.replica(0, 2, 3), -1);
        x.fuse(0, 0, 0);
        x.power(0, 0, false);
        x.power(0, 0, true);
        x.signal(1, 0, 1);
        Checks.due("it is up", x.replica(0, 0, 0), 1);
        Checks.due("its records", x.replica(0, 0, 1), 3);
    }

    // ---- Promise 17, FUSES ----

    /** Promise 17: "for so many bytes, 0 .. 100000", "if there is none such, or it is down, or for another number". */
    private static void promise17Refused() {
        for (int n = 3; n <= 5; n++) {
            Weave x = new Weave();
            x.replicas(1, n);
            for (int s : Checks.outside(0, 3)) {
                Checks.due("shard " + s, x.fuse(s, 0, 5), false);
            }
            for (int r : Checks.outside(0, n - 1)) {
                Checks.due("replica " + r, x.fuse(1, r, 5), false);
            }
            int last = n - 1;
            for (int bytes : new int[] {0, 1, 99999, 100000}) {
                Checks.due("fuse " + bytes, x.fuse(1, last, bytes), true);
                Checks.due("it has it", x.replica(1, last, 3), bytes);
                for (int bad : Checks.outside(0, 100000)) {
                    Checks.due("fuse " + bad, x.fuse(1, last, bad), false);
                    Checks.due("the one that it had", x.replica(1, last, 3), bytes);
                }
            }
            x.power(1, last, false);
            Checks.due("it is down", x.fuse(1, last, 5), false);
            Checks.due("no fuse", x.replica(1, last, 3), -1);
            x.power(1, last, true);
            Checks.due("it is up", x.fuse(1, last, 5), true);
        }
    }

    /** FUSES: "k more are written ...; at the next one, which is not written, it goes down (and has no FUSE". */
    private static void fusesByBytes() {
        for (int r = 0; r < 3; r++) {
            for (int bytes = 0; bytes <= 48; bytes++) {
                Weave x = signals(3);
                x.fuse(0, r, bytes);
                Checks.due("it is up until then", x.replica(0, r, 0), 1);
                x.signal(1, 0, 1);
                x.signal(2, 0, 2);
                boolean up = bytes >= 32;
                Checks.due("up with " + bytes, x.replica(0, r, 0), up ? 1 : 0);
                Checks.due("records", x.replica(0, r, 1), 1 + Math.min(bytes, 32) / 16);
                Checks.due("bytes", x.replica(0, r, 2), up ? 0 : bytes % 16);
                Checks.due("fuse", x.replica(0, r, 3), up ? bytes - 32 : -1);
                if (!up && bytes % 16 > 0) {
                    int at = 16 + bytes / 16 * 16;
                    Checks.due("the last byte written", x.disk(0, r, 0, at + bytes % 16 - 1),
                        bytes % 16 == 1 ? 8 : bytes % 16 == 7 || bytes % 16 == 15 ? bytes / 16 + 1 : 0);
                    Checks.due("the byte behind", x.disk(0, r, 0, at + bytes % 16), 0);
                }
            }
        }
    }

    /** FUSES: "One that comes up has whole RECORDS alone": with a leader, and without one. */
    private static void fusesWholeRecordsAlone() {
        for (int bytes = 0; bytes <= 17; bytes++) {
            Weave x = signals(3);
            x.fuse(0, 2, bytes);
            x.signal(1, 0, 1);
            x.signal(2, 0, 2);
            x.power(0, 1, false);
            x.power(0, 0, false);
            int partial = bytes % 16;
            Checks.due("bytes behind", x.replica(0, 2, 2), partial);
            x.power(0, 2, true);
            Checks.due("no leader", x.shard(0, 0), -1);
            Checks.due("records and bytes", x.replica(0, 2, 1) * 100 + x.replica(0, 2, 2), bytes < 16 ? 100 : 200);
            Checks.due("its first byte has gone", x.disk(0, 2, 0, bytes < 16 ? 16 : 32), 0);
            x.power(0, 0, true);
            Checks.due("made alike", Checks.log(x, 0, 2), Checks.log(x, 0, 0));
            Checks.due("records", x.replica(0, 2, 1), 4);
        }
    }

    /** FUSES: the bytes that it writes while it is made ALIKE count. */
    private static void fusesWhileItIsMadeAlike() {
        for (int bytes = 0; bytes <= 65; bytes++) {
            Weave x = Checks.with("0:b=W;G0;");
            x.replicas(0, 5);
            x.power(0, 4, false);
            x.start(0, 0, 0);
            x.signal(1, 0, 1);
            for (int r = 0; r < 3; r++) {
                x.power(0, r, false);
            }
            x.power(0, 4, true);
            x.fuse(0, 4, bytes);
            Checks.due("no election as yet", x.shard(0, 0), -1);
            x.power(0, 0, true);
            boolean up = bytes >= 64;
            Checks.due("up with " + bytes, x.replica(0, 4, 0), up ? 1 : 0);
            Checks.due("bytes", x.replica(0, 4, 1) * 16 + x.replica(0, 4, 2), up ? 64 : bytes);
            Checks.due("leader and term", leaderAndTerm(x), up ? 32 : -8);
        }
    }

    // ---- A RECORD IS DONE ----

    /** A RECORD IS DONE: "more than half of all REPLICAS have it whole": each choice of those that fail. */
    private static void recordMoreThanHalf() {
        for (int n = 3; n <= 5; n++) {
            for (int choice = 0; choice < 1 << n; choice++) {
                for (int bytes = 0; bytes <= 15; bytes += 15) {
                    Weave x = signals(n);
                    for (int r = 0; r < n; r++) {
                        x.fuse(0, r, (choice >> r & 1) == 1 ? bytes : 16);
                    }
                    int whole = n - Integer.bitCount(choice);
                    boolean done = (choice & 1) == 0 && 2 * whole > n;
                    Checks.due(whole + " of " + n + ", choice " + choice, x.signal(1, 0, 9), done);
                    Checks.due("events", x.workflow(0, 2), done ? 2 : 1);
                    Checks.due("leader", done ? x.shard(0, 0) : 0, 0);
                    for (int r = 1; r < n && (choice & 1) == 0; r++) {
                        Checks.due("bytes of " + r, x.replica(0, r, 1) * 16 + x.replica(0, r, 2),
                            (choice >> r & 1) == 1 ? 16 + bytes : 32);
                    }
                }
            }
        }
    }

    /** A RECORD IS DONE: "If the LEADER has gone down it goes no further." */
    private static void recordTheLeaderHasGoneDown() {
        for (int bytes = 0; bytes < 16; bytes++) {
            Weave x = signals(5);
            x.fuse(0, 0, bytes);
            Checks.due("signal", x.signal(1, 0, 9), false);
            for (int r = 1; r < 5; r++) {
                Checks.due("no other has it", Checks.log(x, 0, r), "0.0/0(0,0,0) 0.13/1(1,0,0)");
            }
            Checks.due("it has " + bytes, x.replica(0, 0, 2), bytes);
        }
    }

    /** A RECORD IS DONE: "whenever ... not more than half are up, the SHARD has no LEADER any more". */
    private static void recordNotMoreThanHalfAreUp() {
        for (int n = 3; n <= 5; n++) {
            Weave x = signals(n);
            for (int r = n - 1; r > 0; r--) {
                x.power(0, r, false);
                Checks.due(r + " of " + n + " are up", x.shard(0, 0), 2 * r > n ? 0 : -1);
                Checks.due("signal", x.signal(r, 0, r), 2 * r > n);
                Checks.due("the term", x.shard(0, 1), 0);
            }
            for (int r = 1; r < n; r++) {
                x.power(0, r, true);
                Checks.due(r + 1 + " of " + n + " are up", x.shard(0, 0), 2 * (r + 1) > n ? 0 : -1);
                Checks.due("the term", x.shard(0, 1), 2 * (r + 1) > n ? 1 : 0);
            }
        }
    }

    /** A RECORD IS DONE: replicas that are down count among all: 2 of 3, 3 of 4 and 3 of 5 that are up must have it. */
    private static void recordThoseThatAreDownCount() {
        for (int n = 3; n <= 5; n++) {
            Weave x = signals(n);
            int most = n / 2 + 1;
            for (int r = most; r < n; r++) {
                x.power(0, r, false);
            }
            x.fuse(0, most - 1, 16);
            Checks.due("done by " + most + " of " + n, x.signal(1, 0, 9), true);
            Checks.due("not done by one less", x.signal(2, 0, 9), false);
            Checks.due("no leader", leaderAndTerm(x), -10);
            Checks.due("but the leader has it", x.replica(0, 0, 1), 3);
            Checks.due("events", x.workflow(0, 2), 2);
        }
    }

    // ---- AN ELECTION ----

    /** AN ELECTION: "the TERM ... grows by 1, whatever comes of it"; "another ELECTION, if more than half are up". */
    private static void electionTheTermGrows() {
        for (int failing = 0; failing <= 4; failing++) {
            Weave x = signals(5);
            for (int r = 1; r <= failing; r++) {
                x.fuse(0, r, 3);
            }
            x.power(0, 0, false);
            int[] want = {11, 22, -8, -8, -8};
            Checks.due("leader and term with " + failing + " failing", leaderAndTerm(x), want[failing]);
        }
        Weave x = signals(5);
        for (int r = 1; r < 5; r++) {
            x.fuse(0, r, 16);
        }
        x.power(0, 0, false);
        Checks.due("all have nothing left", leaderAndTerm(x), 11);
        Checks.due("signal", x.signal(1, 0, 1), false);
        Checks.due("leader 1, then leader 2 go down", leaderAndTerm(x), -8);
        Checks.due("bytes of leader 2's LEADER", x.replica(0, 2, 1) * 100 + x.replica(0, 2, 2), 200);
    }

    /** AN ELECTION: LEADER at each byte of the first one, with two left of four, or of five. */
    private static void electionLeaderAtEachByte() {
        for (int n = 4; n <= 5; n++) {
            for (int bytes = 0; bytes <= 16; bytes++) {
                Weave x = signals(n);
                x.fuse(0, 1, bytes);
                x.power(0, 0, false);
                boolean done = bytes == 16;
                Checks.due("leader and term with " + bytes, leaderAndTerm(x), done ? 11 : n == 5 ? 22 : -9);
                Checks.due("replica 2", Checks.log(x, 0, 2),
                    "0.0/0(0,0,0)" + (done ? " 0.13/1(1,0,0)" : n == 5 ? " 0.13/2(2,0,0)" : ""));
            }
        }
    }

    /** AN ELECTION: "of those that are up, the one whose last RECORD has the greatest TERM", ahead of more records. */
    private static void electionTheGreatestTerm() {
        Weave x = signals(3);
        x.power(0, 2, false);
        x.signal(1, 0, 1);
        x.signal(2, 0, 2);
        x.fuse(0, 1, 0);
        Checks.due("not done", x.signal(3, 0, 3), false);
        x.power(0, 0, false);
        x.power(0, 1, true);
        x.power(0, 2, true);
        Checks.due("leader 1 of term 1 with 3 records and its own", leaderAndTerm(x) * 10 + x.replica(0, 1, 1), 114);
        x.power(0, 1, false);
        x.power(0, 0, true);
        Checks.due("replica 2, not 0, though both have 4 records", leaderAndTerm(x), 22);
        Checks.due("the undone signal has gone", Checks.log(x, 0, 0),
            "0.0/0(0,0,0) 0.8/0(1,0,1) 0.8/0(2,0,2) 0.13/1(1,0,0) 0.13/2(2,0,0)");
        x.power(0, 2, false);
        Checks.due("no leader", x.shard(0, 0), -1);
    }

    /** AN ELECTION: a later term with fewer records is ahead of an earlier one with more. */
    private static void electionFewerRecordsOfALaterTerm() {
        Weave x = Checks.with("b=A0(0);c=A0(0);");
        x.replicas(0, 5);
        x.power(0, 4, false);
        x.power(0, 3, false);
        x.fuse(0, 1, 16);
        x.fuse(0, 2, 0);
        Checks.due("start", x.start(0, 0, 0), -1);
        Checks.due("replica 0 and 1 have it", x.replica(0, 0, 1) * 10 + x.replica(0, 1, 1), 11);
        x.power(0, 0, false);
        x.power(0, 1, false);
        x.power(0, 2, true);
        x.power(0, 3, true);
        x.power(0, 4, true);
        Checks.due("leader 2 of term 1, without it", leaderAndTerm(x) * 10 + x.shard(0, 3), 210);
        x.power(0, 3, false);
        Checks.due("no leader", x.shard(0, 0), -1);
        x.power(0, 0, true);
        Checks.due("leader 2 again: its term is the greatest", leaderAndTerm(x), 22);
        Checks.due("the start has gone", Checks.log(x, 0, 0), "0.13/1(2,0,0) 0.13/2(2,0,0)");
    }

    /** AN ELECTION: "of several the one with the most RECORDS, of several the least", 0 without a RECORD. */
    private static void electionTheMostRecordsThenTheLeast() {
        for (int longest = 0; longest < 3; longest++) {
            Weave x = signals(5);
            for (int r = 3; r < 5; r++) {
                x.power(0, r, false);
            }
            for (int r = 1; r < 3; r++) {
                x.fuse(0, r, r == longest ? 1000 : 0);
            }
            Checks.due("not done", x.signal(1, 0, 1), false);
            if (longest > 0) {
                x.power(0, 0, false);
            }
            x.power(0, 3, true);
            x.power(0, longest == 1 ? 2 : 1, true);
            Checks.due("the one with the most", leaderAndTerm(x), 10 * longest + 1);
            Checks.due("its signal has come", x.workflow(0, 2), 2);
        }
        for (int down = 0; down < 3; down++) {
            Weave x = new Weave();
            x.replicas(0, 5);
            for (int r = 0; r <= down; r++) {
                x.power(0, r, false);
            }
            Checks.due("the least of those that have none", leaderAndTerm(x), down < 2 ? 11 * (down + 1) : -8);
        }
    }

    /** AN ELECTION, ALIKE: "its own go (a FUSE isn't touched by that); then it writes what it has not". */
    private static void electionFusesOfThoseMadeAlike() {
        for (int bytes = 14; bytes <= 34; bytes++) {
            Weave x = signals(3);
            x.fuse(0, 1, 0);
            x.fuse(0, 2, 0);
            x.signal(1, 0, 1);
            x.power(0, 0, false);
            x.power(0, 1, true);
            x.power(0, 2, true);
            Checks.due("leader 1 of term 1", leaderAndTerm(x), 11);
            x.power(0, 1, false);
            x.power(0, 2, false);
            x.power(0, 0, true);
            Checks.due("replica 0 has a record of its own", Checks.log(x, 0, 0), "0.0/0(0,0,0) 0.8/0(1,0,1)");
            x.fuse(0, 0, bytes);
            x.power(0, 1, true);
            Checks.due("bytes with " + bytes, x.replica(0, 0, 1) * 16 + x.replica(0, 0, 2), 16 + Math.min(bytes, 32));
            Checks.due("its fuse", x.replica(0, 0, 3), bytes < 32 ? -1 : bytes - 32);
            Checks.due("leader", x.shard(0, 0), bytes < 32 ? -1 : 1);
        }
    }

    /** AN ELECTION, ALIKE: "(if it goes down by that, the others go on)". */
    private static void electionTheOthersGoOn() {
        Weave x = signals(5);
        x.power(0, 3, false);
        x.power(0, 4, false);
        x.signal(1, 0, 1);
        x.power(0, 0, false);
        x.power(0, 3, true);
        Checks.due("leader 1", leaderAndTerm(x), 11);
        x.power(0, 2, false);
        x.fuse(0, 3, 0);
        x.power(0, 4, true);
        Checks.due("replica 3 went down by LEADER", x.replica(0, 3, 0), 0);
        Checks.due("replica 4 was made alike all the same", Checks.log(x, 0, 4),
            "0.0/0(0,0,0) 0.8/0(1,0,1) 0.13/1(1,0,0) 0.13/2(1,0,0)");
        Checks.due("LEADER was not done", leaderAndTerm(x), -8);
    }

    /** AN ELECTION: "is as soon as ... more than half of its REPLICAS are up (also in the midst of a call)". */
    private static void electionInTheMidstOfACall() {
        Weave x = Checks.with("b=A0(1);c=A0(2);d=A0(3);");
        x.replicas(0, 5);
        x.fuse(0, 0, 24);
        x.fuse(0, 1, 48);
        Checks.due("start", x.start(0, 0, 0), 0);
        Checks.due("leader 1 goes on", leaderAndTerm(x), 11);
        Checks.due("its history", Checks.history(x, 0), "0(0,0)@0 1(0,1)");
        Checks.due("the log", Checks.log(x, 0, 4), "0.0/0(0,0,0) 0.13/1(1,0,0) 0.1/1(0,1,0)");
    }

    /** AN ELECTION: going on, the new leader fails as well: the next one goes on, once for each record. */
    private static void electionOneBehindTheOther() {
        Weave x = Checks.with("b=A0(1);c=A0(2);");
        x.replicas(0, 5);
        x.fuse(0, 0, 24);
        x.fuse(0, 1, 39);
        Checks.due("start", x.start(0, 0, 0), 0);
        Checks.due("leader 2 goes on", leaderAndTerm(x), 22);
        Checks.due("its history", Checks.history(x, 0), "0(0,0)@0 1(0,1)");
        Checks.due("the log", Checks.log(x, 0, 4), "0.0/0(0,0,0) 0.13/1(1,0,0) 0.13/2(2,0,0) 0.1/2(0,1,0)");
    }

    /** AN ELECTION: "all WORKFLOWS are what their EVENTS ... make them: each STEP gone again", from its beginning. */
    private static void electionEachStepGoneAgain() {
        Weave x = Checks.with("b=b+1;c=c+b;d=W;b=b*3;e=d+e;d=W;");
        x.start(0, 0, 4);
        x.signal(1, 0, 20);
        int[] want = {4, 3, 1, 20, 20, 0, 0, 0};
        for (int round = 0; round < 3; round++) {
            for (int v = 0; v < 8; v++) {
                Checks.due("local " + v + " of round " + round, x.query(0, v), want[v]);
            }
            Checks.due("it waits for a signal", x.workflow(0, 0) * 10 + x.workflow(0, 5), 20);
            int leader = x.shard(0, 0);
            x.power(0, leader, false);
            x.power(0, leader, true);
        }
    }

    /**
     * AN ELECTION: "(a W or J waits again, if what it wanted came behind all that was there when it was first done)",
     * else it finds that again: the leader goes down behind a CHILD, and E is the 200th STEP since, or the 201st.
     */
    private static void electionAWOrJWaitsAgain() {
        for (String wants : new String[] {"b=W;", "b=J(c);"}) {
            for (int waits = 0; waits < 2; waits++) {
                for (int more = 0; more < 2; more++) {
                    Weave x = Checks.with("c=C1(0);a=98;e=A0(0);" + wants + "0:a=a-1;I(a)0;d=C2(0);"
                        + "f=1;".repeat(waits + more) + "g=1;E(7);");
                    Checks.tell(x, 1, "b=W;E(b);");
                    x.start(0, 0, 0);
                    x.tick(1);
                    x.signal(1, 1, 61);
                    if (waits == 1) {
                        x.finish(x.poll(0), 5);
                        Checks.due("it waits", x.workflow(0, 0), wants.equals("b=W;") ? 2 : 3);
                        x.fuse(0, 0, 32);
                        bringWanted(x, wants);
                    } else {
                        bringWanted(x, wants);
                        x.fuse(0, 0, 32);
                        x.finish(x.poll(0), 5);
                    }
                    Checks.due("leader and term", leaderAndTerm(x), 11);
                    Checks.due("b", x.query(0, 1), wants.equals("b=W;") ? 51 : 61);
                    Checks.due("its end, behind " + wants + " that waited " + waits, x.workflow(0, 1),
                        more == 0 ? 7 : -1);
                }
            }
        }
    }

    private static void bringWanted(Weave x, String wants) {
        if (wants.equals("b=W;")) {
            x.signal(1, 0, 51);
        } else {
            x.tick(1);
        }
    }

    /** AN ELECTION: numbers of four bytes are read from the log as they were: STARTED, SIGNAL, RESULT, CHILD, TIMER. */
    private static void electionNumbersOfFourBytes() {
        for (int number : new int[] {0x01020304, 0x7F80FF01, 0x80000000, 0xFFFEFDFC, 0x00FF0000}) {
            Weave x = Checks.with("b=W;c=A0(a);d=C1(b);T(c);e=W;");
            int request = number & MAX & ~3;
            x.start(request, 0, number);
            x.signal(number & MAX, 0, number + 1);
            x.finish(x.poll(0), number + 2);
            String before = Checks.history(x, 0);
            x.power(0, 0, false);
            Checks.due("the history of " + number, Checks.history(x, 0), before);
            Checks.due("a, b and c", x.query(0, 0) + " " + x.query(0, 1) + " " + x.query(0, 2),
                number + " " + (number + 1) + " " + (number + 2));
            Checks.due("the request", x.start(request, 0, 0), 0);
            Checks.due("the signal's", x.signal(number & MAX, 0, 0), true);
            Checks.due("no more events", Checks.history(x, 0), before);
        }
    }

    /** AN ELECTION: who waits waits, though the new leader goes down while another one GOES ON. */
    private static void electionTheNewLeaderGoesDown() {
        Weave x = Checks.with("b=W;c=A0(b);");
        Checks.tell(x, 1, "b=W;c=W;d=W;");
        x.replicas(0, 5);
        x.power(0, 3, false);
        x.power(0, 4, false);
        x.start(0, 0, 0);
        x.start(4, 1, 0);
        x.signal(1, 4, 5);
        x.signal(2, 4, 6);
        x.fuse(0, 0, 24);
        Checks.due("the leader goes down behind SIGNAL", x.signal(1, 0, 9), true);
        x.fuse(0, 1, 20);
        x.power(0, 3, true);
        Checks.due("so does leader 1 behind LEADER", leaderAndTerm(x), -9);
        Checks.due("its bytes", x.replica(0, 1, 2), 4);
        Checks.due("workflow 0 was going on", x.workflow(0, 0), 5);
        Checks.due("workflow 4 waits for a signal", x.workflow(4, 0), 2);
        Checks.due("the signals that it took", x.workflow(4, 2) * 10 + x.workflow(4, 5), 30);
        x.power(0, 4, true);
        Checks.due("leader 2 of term 2", leaderAndTerm(x), 22);
        Checks.due("workflow 0 waits for work", x.workflow(0, 0), 0);
    }

    /** AN ELECTION: "a TASK ... is READY since the clock, or since the b of its latest TRIED ... if that is later". */
    private static void electionTasksAreReady() {
        for (int later = 0; later <= 5; later++) {
            Weave x = Checks.with("b=A0(0);");
            x.start(0, 0, 0);
            x.fail(x.poll(0));
            x.tick(2);
            x.fail(x.poll(0));
            Checks.stop(x, 0);
            if (later > 0) {
                x.tick(later);
            }
            x.power(0, 1, true);
            int token = x.poll(0);
            Checks.due("poll at " + (2 + later) + ", ready since 6", token, later < 4 ? -1 : 3);
            if (later < 4) {
                x.tick(3 - later + 1);
                token = x.poll(0);
            }
            Checks.due("poll", token, 3);
            Checks.due("tries", x.task(3, 2), 3);
        }
    }

    /** AN ELECTION: READY since the clock: behind those of other shards that have been so longer. */
    private static void electionTasksAreReadySinceTheClock() {
        Weave x = Checks.with("b=A0(0);");
        x.start(0, 0, 0);
        x.tick(1);
        x.start(1, 0, 0);
        x.tick(1);
        x.power(0, 0, false);
        x.start(2, 0, 0);
        int[] due = {1, 0, 2};
        for (int token = 1; token <= 3; token++) {
            Checks.due("poll", x.poll(0), token);
            Checks.due("its workflow", x.task(token, 0), due[token - 1]);
        }
    }

    /** AN ELECTION: a TRIED counts only "behind its EVENT 1", and of its own workflow. */
    private static void electionTriedOfAnEarlierTask() {
        Weave x = Checks.with("b=A0(0);c=A1(0);");
        x.start(0, 0, 0);
        x.start(4, 0, 0);
        x.fail(x.poll(0));
        x.fail(x.poll(0));
        x.tick(2);
        x.finish(x.poll(0), 1);
        x.power(0, 0, false);
        Checks.due("the next task of workflow 0", x.poll(1), 4);
        Checks.due("its tries", x.task(4, 2), 1);
        Checks.due("the task of workflow 4", x.poll(0), 5);
        Checks.due("its tries", x.task(5, 2), 2);
    }

    /** "A REPLICA that comes up while there is a LEADER is made ALIKE at once (no ELECTION: the TERM stays)." */
    private static void electionNoneIfThereIsALeader() {
        Weave x = signals(3);
        x.power(0, 1, false);
        x.signal(1, 0, 1);
        x.power(0, 1, true);
        Checks.due("leader and term", leaderAndTerm(x), 0);
        Checks.due("made alike", Checks.log(x, 0, 1), "0.0/0(0,0,0) 0.8/0(1,0,1)");
        x.power(0, 0, false);
        Checks.due("leader and term", leaderAndTerm(x), 11);
        x.power(0, 0, true);
        Checks.due("leader and term", leaderAndTerm(x), 11);
        Checks.due("made alike", Checks.log(x, 0, 0), "0.0/0(0,0,0) 0.8/0(1,0,1) 0.13/1(1,0,0)");
    }
}
