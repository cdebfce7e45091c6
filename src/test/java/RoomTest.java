import java.lang.management.ManagementFactory;

/** All calls of a run live in one room: after the rows have grown, calls must make next to nothing. */
public final class RoomTest {
    // A tenth of the room's 7.3 million elements, at four bytes each.
    private static final long MOST_BYTES = 7_300_000L / 10 * 4;

    private static long made() {
        var threads = (com.sun.management.ThreadMXBean) ManagementFactory.getThreadMXBean();
        return threads.getThreadAllocatedBytes(Thread.currentThread().getId());
    }

    private static void manyCuts(NodeMaker x) {
        for (int i = 0; i < 40; i++) {
            x.put(-32768, -30000 + 1500 * i, 31000, -29990 + 1500 * i);
        }
        for (int i = 0; i < 24; i++) {
            x.put(31500 + 40 * i, -32768, 31520 + 40 * i, 32767);
        }
    }

    private static long run() {
        long before = made();
        NodeMaker x = new NodeMaker();
        manyCuts(x);
        for (int i = 0; i < 112; i++) {
            x.take(63);
            x.put(32420, -32768, 32440, 32767);
            x.way(i, i);
            x.step(i, 1);
        }
        return made() - before;
    }

    public static void main(String[] args) {
        run();
        long bytes = run();
        System.out.println("512 calls made " + bytes + " bytes");
        if (bytes > MOST_BYTES) {
            System.out.println("that is more than " + MOST_BYTES);
            System.exit(1);
        }
    }
}
