import java.lang.management.ManagementFactory;

/** All that 512 calls make, if they are dear ones, stays far below the room that a run has. */
public final class RoomTest {
    // 7.3 million fields and elements of four bytes would be 29 million bytes; headers come on top.
    private static final long LIMIT = 8_000_000;
    private static final int CALLS = 512;

    private static long bytes() {
        return ((com.sun.management.ThreadMXBean) ManagementFactory.getThreadMXBean())
                .getThreadAllocatedBytes(Thread.currentThread().getId());
    }

    private interface Run {
        void go();
    }

    private static int wrong;

    private static void measure(String what, long limit, Run run) {
        run.go();
        long before = bytes();
        run.go();
        long used = bytes() - before;
        System.out.println(what + ": " + used + " bytes");
        if (used > limit) {
            wrong++;
            System.out.println("more than " + limit);
        }
    }

    private static KeyGroups full() {
        KeyGroups x = new KeyGroups();
        x.create(0);
        for (int m = 1; m < 16; m++) {
            x.propose(0, 1, x.offer(m));
        }
        return x;
    }

    private static void welcomes() {
        KeyGroups x = full();
        for (int k = 31; k < CALLS && x.count(1) < 299; k++) {
            x.commit(0, true);
        }
    }

    private static void paths() {
        KeyGroups x = full();
        int c = x.commit(0, true);
        x.deliver(c, 0);
        for (int m = 1; m < 16; m++) {
            x.deliver(c + 1, m);
        }
        for (int k = 48; k < CALLS - 2 && x.count(1) < 300; k += 3) {
            c = x.commit(k % 16, true);
            x.deliver(c, k % 16);
            x.deliver(c, (k + 1) % 16);
        }
    }

    private static void deliveries() {
        KeyGroups x = full();
        int c = x.commit(0, true);
        for (int k = 32; k < CALLS; k++) {
            x.deliver(c + k % 2, k % 24);
        }
    }

    private static void longMessages() {
        KeyGroups x = new KeyGroups();
        for (int k = 0; k < 60; k++) {
            x.end(20);
        }
        x.post();
        for (int k = 61; k < CALLS - 1; k += 2) {
            x.copy(0, 0, 1200);
            x.post();
        }
    }

    private static void made() {
        KeyGroups x = new KeyGroups();
        for (int k = 0; k < 14; k++) {
            x.end(20);
        }
        x.post();
        for (int k = 15; k < CALLS - 3; k += 4) {
            x.feed(k, k, k, k, k);
            x.copy(0, 0, 280);
            x.end(20);
            x.make(k % 8 < 4 ? 1 : 7, 1, 0);
        }
    }

    public static void main(String[] args) {
        measure("a new object", 200_000, KeyGroups::new);
        measure("commits with welcomes", LIMIT, RoomTest::welcomes);
        measure("commits with paths", LIMIT, RoomTest::paths);
        measure("deliveries", LIMIT, RoomTest::deliveries);
        measure("long messages", LIMIT, RoomTest::longMessages);
        measure("terms of long tapes", LIMIT, RoomTest::made);
        System.out.println(wrong == 0 ? "all runs keep within their room" : wrong + " runs need too much room");
        if (wrong != 0) {
            System.exit(1);
        }
    }
}
