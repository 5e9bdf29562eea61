import com.sun.management.ThreadMXBean;
import java.lang.management.ManagementFactory;
import java.util.NoSuchElementException;

/** A new object is small, and no call makes objects, so that all calls of a run fit into one room. */
public final class RoomTest {
    private static final ThreadMXBean THREADS = (ThreadMXBean) ManagementFactory.getThreadMXBean();
    private static final Check CHECK = new Check();

    public static void main(String[] args) {
        for (int warm = 0; warm < 3; warm++) {
            callAll(new PremiumHours());
        }
        long before = allocated();
        PremiumHours desk = new PremiumHours();
        long made = allocated() - before;
        CHECK.same("a new object of " + made + " bytes is small", made < 400_000 ? 1 : 0, 1);
        before = allocated();
        callAll(desk);
        long more = allocated() - before;
        CHECK.same("calls that made " + more + " bytes make nothing", more < 2_000 ? 1 : 0, 1);
        CHECK.end();
    }

    private static long allocated() {
        return THREADS.getThreadAllocatedBytes(Thread.currentThread().getId());
    }

    private static int callAll(PremiumHours desk) {
        // "premium week 9 100;", "premium day 0 70;", both over the tape of 40 bytes
        desk.feed(0x7072656d, 0x69756d20, 0x7765656b, 0x20392031, 0x30303b20);
        desk.feed(0x7072656d, 0x69756d20, 0x64617920, 0x30203730, 0x3b202020);
        int sum = desk.rules(40);
        for (int day = 0; day < 28; day++) {
            for (int worker = 0; worker < 4; worker++) {
                desk.punch(worker, 0, day, 60 * worker, false);
                desk.punch(worker, 1, day, 900, false);
            }
        }
        for (int i = 0; i < 28; i++) {
            desk.strike(i % 4, i, 900, false);
            sum += desk.undo() + desk.count(i) + desk.moment(i, i, false) + desk.clock(1440 * i, i % 3)
                + desk.punched(i % 4, i, i % 3) + desk.span(i % 4, i, i % 3) + quarter(desk, i % 4, 96 * i, i % 6)
                + desk.day(i % 4, i, -2) + desk.week(i % 4, i % 4, 0) + desk.counted(i % 4, i % 4, false)
                + desk.pay(i % 4, i % 4, true) + desk.dayPay(i % 4, i) + desk.total() + desk.worth(i % 3)
                + desk.together(0, i % 5) + desk.would(i % 4, 2, i, 1000, false) + desk.dearest(i % 4, 1, i);
        }
        return sum;
    }

    private static int quarter(PremiumHours desk, int worker, int quarter, int what) {
        try {
            return what > 4 ? 0 : desk.quarter(worker, quarter, what);
        } catch (NoSuchElementException e) {
            return 0;
        }
    }
}
