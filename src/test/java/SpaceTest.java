import java.lang.management.ManagementFactory;

/**
 * All calls of one run live in one room that nothing is ever taken out of: an object is small,
 * and but for the first keep() in each place no call makes anything.
 */
public final class SpaceTest {
    private static final int ROUNDS = 1000;
    private static final String TEXT = "n6 g0000005 l1111110 u0101013 p1100114 s0011001 o0101o5141";
    private static final Checks c = new Checks("SpaceTest");
    private static final com.sun.management.ThreadMXBean THREADS =
        (com.sun.management.ThreadMXBean) ManagementFactory.getThreadMXBean();
    /** So that no call can be left out as unused. */
    private static long sum = 0;

    private static void allCalls(SecondRoom x) {
        sum += x.row(0, 40) + x.lay(0, 3, 4) + x.at(0, 3) + x.copy(0, 0, 0, 1, 39) + x.mean(0) + x.tear(0);
        sum += x.text(1, 60) + x.put(1, 2, 3) + x.fault(0) + x.hotel(0) + x.fault(1) + x.hotel(1);
        sum += x.guest(1, 3) + x.mark(1, 4) + x.mark(0, 1) + x.turn(0, 2) + x.change(0) + x.lock(0, 1) + x.use(0);
        sum += x.keep(0) + x.keep(1) + x.keep(2) + x.lots(30, 77) + x.undo(3) + x.on(1);
        sum += x.things(0, 1) + x.both(0) + x.apart(0) + x.has(5) + x.fits(0, 1) + x.looks(0) + x.drawer(0);
        sum += x.lives(1) + x.nearest(0, 1) + x.twins(0) + x.pairs() + x.ring() + x.who(0, 1) + x.marks();
        sum += x.bill(0, 1) + x.pays(0) + x.cheapest(0, 1) + x.spread(0) + x.odds(0, 0);
        sum += x.asked() + x.upper() + x.lower() + x.count(3) + x.finding() + x.findings(1) + x.digest();
    }

    private static long bytesMade() {
        return THREADS.getCurrentThreadAllocatedBytes();
    }

    public static void main(String[] args) {
        SecondRoom x = Checks.hotelOf(TEXT);
        allCalls(x);
        allCalls(x);
        long before = bytesMade();
        for (int i = 0; i < ROUNDS; i++) {
            allCalls(x);
        }
        long byCalls = bytesMade() - before;
        c.due("calls made nothing (" + byCalls + " bytes by all rounds)", byCalls < ROUNDS ? 1 : 0, 1);
        before = bytesMade();
        for (int i = 0; i < ROUNDS; i++) {
            sum += new SecondRoom().count(0);
        }
        long byObject = (bytesMade() - before) / ROUNDS;
        c.due("an object takes " + byObject + " bytes", byObject < 6000 ? 1 : 0, 1);
        c.due("a sum, so that all was called", sum != 0 ? 1 : 0, 1);
        c.end();
    }
}
