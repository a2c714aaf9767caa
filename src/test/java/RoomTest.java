import java.lang.management.ManagementFactory;

/**
 * All calls of one run live in one room of 7.3 million fields and elements, each of which has a byte at least: the
 * dearest runs of 512 calls may allocate so many bytes. Rule 12 of LANGUAGE.md.
 */
public final class RoomTest {
    private static final long ROOM = 7_300_000;

    public static void main(String[] args) {
        Checks.runAll(RoomTest.class);
    }

    private static long allocated() {
        return ((com.sun.management.ThreadMXBean) ManagementFactory.getThreadMXBean()).getCurrentThreadAllocatedBytes();
    }

    private static TaskWeave with(String... texts) {
        TaskWeave x = new TaskWeave();
        for (int s = 0; s < 4; s++) {
            x.replicas(s, 5);
        }
        for (int p = 0; p < texts.length; p++) {
            for (int i = 0; i < texts[p].length(); i++) {
                x.type(texts[p].charAt(i), 1);
            }
            x.program(p);
        }
        return x;
    }

    /** The run is made once ahead of being measured, so that nothing of the machine's own is counted. */
    private static void dueSmall(String what, Runnable run) {
        run.run();
        long before = allocated();
        run.run();
        long bytes = allocated() - before;
        System.out.println(what + ": " + bytes + " bytes");
        Checks.due(what + " with " + bytes + " bytes have room", bytes < ROOM, true);
    }

    /** Full histories in all shards, with each message gone. */
    private static void fullHistories() {
        dueSmall("children", () -> {
            TaskWeave x = with("0:b=C7(0);G0;");
            for (int request = 0; request < 64; request++) {
                x.start(request, 0, 0);
            }
            for (int i = 0; i < 350; i++) {
                x.tick(500);
            }
        });
    }

    /** Tasks that fail as often as they can, with all their TRIED. */
    private static void failingTasks() {
        dueSmall("tasks", () -> {
            TaskWeave x = with("0:b=A0(0);G0;");
            for (int request = 0; request < 64; request++) {
                x.start(request, 0, 0);
            }
            for (int i = 0; i < 210; i++) {
                x.poll(0);
                x.tick(i % 30 == 0 ? 20 : 1);
            }
        });
    }

    /** A new leader with each second call, and long logs. */
    private static void elections() {
        dueSmall("elections", () -> {
            TaskWeave x = with("0:b=C7(0);G0;");
            for (int request = 0; request < 64; request++) {
                x.start(request, 0, 0);
            }
            x.tick(1);
            for (int i = 0; i < 140; i++) {
                int leader = x.shard(i % 4, 0);
                x.power(i % 4, leader, false);
                x.power(i % 4, leader, true);
            }
        });
    }

    /** Programs told again and again, good ones and bad ones. */
    private static void programs() {
        dueSmall("programs", () -> {
            TaskWeave x = with();
            for (int i = 0; i < 160; i++) {
                x.type(i % 2 == 0 ? 0x623d573b623d573bL : 0x3b3b3b3b3b3b3b3bL, 8);
                try {
                    x.program(i % 10);
                } catch (IllegalArgumentException | IndexOutOfBoundsException e) {
                    x.fault();
                }
            }
        });
    }
}
