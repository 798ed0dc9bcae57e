import java.lang.management.ManagementFactory;

/** What the program makes while it runs: its rows once in the constructor, and nothing in a call that does not throw. */
final class RoomTest {
    /** A run's room is 7.3 million fields and elements, and a run may make 512 objects; in bytes, 8 each at most. */
    private static final long MOST_FOR_ONE = 8L * 7_300_000 / 512;

    private RoomTest() {
    }

    public static void main(String[] args) {
        constructors();
        calls();
        Check.finish("RoomTest");
    }

    private static long allocated() {
        com.sun.management.ThreadMXBean threads =
                (com.sun.management.ThreadMXBean) ManagementFactory.getThreadMXBean();
        return threads.getThreadAllocatedBytes(Thread.currentThread().getId());
    }

    private static void constructors() {
        BridgePaint[] kept = new BridgePaint[512];
        long before = allocated();
        for (int i = 0; i < kept.length; i++) {
            kept[i] = new BridgePaint();
        }
        long each = (allocated() - before) / kept.length;
        Check.due("an object of " + each + " bytes has its part of the room", each < MOST_FOR_ONE, true);
        Check.due("all are there", kept[511].count(0), 0);
    }

    private static void calls() {
        BridgePaint paint = new BridgePaint();
        dearest(paint);
        BridgePaint other = new BridgePaint();
        long before = allocated();
        long sum = dearest(other);
        long made = allocated() - before;
        Check.due("calls that make " + made + " bytes (" + sum + ")", made < 4096, true);
    }

    /** About 512 calls, with the dear ones on a state that is full. */
    private static long dearest(BridgePaint paint) {
        long sum = 0;
        for (int bay = 0; bay < 8; bay++) {
            sum += paint.bay(bay & 1, bay, 1 + bay, 500);
        }
        for (int i = 0; i < 4; i++) {
            sum += paint.gang(1 + i) + paint.batch(99, i, i);
        }
        // "stop if train; dry 9"
        paint.feed(0x73746f70, 0x20696620, 0x74726169, 0x6e3b6472, 0x79203939);
        paint.end(19);
        sum += paint.terms();
        paint.trains(0x249);
        for (int i = 0; i < 30; i++) {
            sum += paint.weather(i, i + 99, i % 6, 6 + i % 6, i % 10, i) + paint.reading(i % 8, 6 * i, 500)
                    + paint.bolt(i % 8, i);
        }
        for (int i = 0; i < 40; i++) {
            sum += paint.job(0, i % 8, i % 4, i % 4, 30 * i);
        }
        paint.image();
        for (int i = 0; i < 30; i++) {
            sum += paint.order(0, 0, 63 << i % 3, 20 * i, i % 3) + paint.put(0, 15 << i % 5, 20 * i, -1)
                    + paint.hours(0, i % 8, 0, 199, i % 4) + paint.below(i % 8, 1, 0) + paint.spent(500, i % 8)
                    + paint.edge(20, i % 5, 5, 999) + paint.even(4) + paint.steel(i % 8, 199, 0, true)
                    + paint.risk(i) + (paint.back() ? 1 : 0);
        }
        return sum;
    }
}
