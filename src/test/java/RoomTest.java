import java.lang.management.ManagementFactory;

/** All calls of a run live in one room: what 512 dear calls make must stay small. */
public final class RoomTest {
    private static final Due due = new Due();
    private static final String FULL = "house 30 3 1;house 31 4 2;house 29 2 3;house 28 9 4;house 33 1 5;"
        + "house 35 0 6;house 27 5 7;house 20 6 8;person 33 1 in 0;person 31 0 in 1;person 32 2 in 2;"
        + "person 30 0 in 3;person 36 1 in 4;person 35 0 in 5;person 29 1 in 6;person 22 1 in 7;"
        + "damp 1 2 3 4 5 6 7 8;eases give+damp+worn/10+(heel<size)*3;"
        + "bursts (tight*2+damp-give<worn and 3<damp or 14<tight)*(1+day);";

    public static void main(String[] args) {
        run();
        long before = made();
        run();
        long bytes = made() - before;
        System.out.println("a run of 512 calls makes " + bytes + " bytes");
        // A room of 7.3 million elements is some 58 million bytes; a run should be far from it.
        due.is("bytes below half a million", bytes < 500_000, true);
        due.end("RoomTest");
    }

    private static long made() {
        com.sun.management.ThreadMXBean threads =
            (com.sun.management.ThreadMXBean) ManagementFactory.getThreadMXBean();
        return threads.getThreadAllocatedBytes(Thread.currentThread().getId());
    }

    private static void run() {
        HornHouses x = Due.town(FULL);
        int calls = FULL.length() / 20 + 3;
        for (int i = 0; calls + 13 <= 512; i++) {
            calls += 13;
            x.letIn();
            x.image();
            x.large(i % 3);
            x.next(i % 2);
            x.days(1);
            x.match(i % 2);
            x.count(9);
            x.byDamp(i % 8, 5, 5);
            x.years(i, 40, i % 3);
            x.trade(i % 8);
            x.see(i % 8, 0, x.house(i % 8, 3));
            x.restore();
        }
    }
}
