import java.lang.management.ManagementFactory;

/** What a run makes is counted: an object takes little room, and no call of it takes more. */
final class RoomTest {
    /** Room of one object: its longest row has 1105 longs, all others together fewer. */
    private static final long MOST_OF_AN_OBJECT = 40_000;
    /** What the machine itself may take while it runs the calls. */
    private static final long MOST_OF_512_CALLS = 8_000;
    private static final Check CHECK = new Check();

    public static void main(String[] args) {
        if (ManagementFactory.getThreadMXBean() instanceof com.sun.management.ThreadMXBean bean) {
            // A first round loads what the measured one uses.
            measure(bean);
            long[] taken = measure(bean);
            CHECK.holds("rule 12: an object takes " + taken[0] + " bytes", taken[0] <= MOST_OF_AN_OBJECT);
            CHECK.holds("rule 12: 512 calls take " + taken[1] + " bytes", taken[1] <= MOST_OF_512_CALLS);
        }
        CHECK.end();
    }

    private static long[] measure(com.sun.management.ThreadMXBean bean) {
        long thread = Thread.currentThread().getId();
        long start = bean.getThreadAllocatedBytes(thread);
        GoreGlobe globe = new GoreGlobe();
        long made = bean.getThreadAllocatedBytes(thread);
        long sum = 0;
        for (int i = 0; i < 16; i++) {
            sum += all(globe, i);
        }
        long called = bean.getThreadAllocatedBytes(thread);
        CHECK.holds("the calls are answered", sum != 0);
        return new long[] {made - start, called - made};
    }

    /** Each call of the face once, 32 calls in all. */
    private static long all(GoreGlobe globe, int i) {
        long sum = globe.drift(40) + globe.add(i) + globe.add(265 - i) + globe.tell(0, 10 + i) + globe.tell(2, i % 4);
        sum += globe.land(100 + i, 1) + globe.image() + globe.worst(0) + globe.way(i, 265 - i, 2) + globe.sea(0, 2);
        sum += globe.route(1) + globe.rolled(7, 1) + globe.lost(3, 0) + globe.count(4) + globe.count(5) + globe.stop(0);
        sum += globe.place(0, i, 2) + globe.flat(0, i, 2) + globe.back(0, i, 60 * i) + globe.pair(i, i + 1, 1);
        sum += globe.reverse() + globe.out(i) + globe.type('0') + globe.read() + globe.undo() + globe.seed(i);
        sum += globe.sheet(i % 4, i % 4, 30) + globe.film(0, i % 4, i % 4, 6) + globe.item(i % 4, i % 4, 1, i);
        return sum + globe.copy(i % 4, 0, i % 4, 3, 20) + globe.seen(i % 4, i % 4, 0, 1) + globe.restore();
    }
}
