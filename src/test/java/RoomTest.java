import com.sun.management.ThreadMXBean;
import java.lang.management.ManagementFactory;
import java.util.function.IntBinaryOperator;

/**
 * An object with all its 512 calls fits into the one room of a run: some 600,000 objects and arrays, 7.3 million
 * fields and elements. An object takes at least 16 bytes, an element at least one: 7.3 million bytes are in it.
 */
public final class RoomTest {
    private static final long ROOM = 7_300_000;
    /** With those that make the desk and those between they are some 512. */
    private static final int CALLS = 250;
    private static final ThreadMXBean THREADS = (ThreadMXBean) ManagementFactory.getThreadMXBean();
    private static final Check CHECK = new Check();
    private static PremiumHours desk;

    public static void main(String[] args) {
        fits("feed", (worker, i) -> desk.feed(i, i, i, i, i));
        fits("rules", (worker, i) -> desk.rules(0));
        fits("count", (worker, i) -> desk.count(i % 12));
        fits("premium", (worker, i) -> desk.premium(i % 2, i % 5));
        fits("moment", (worker, i) -> desk.moment(i % 28, i, false));
        fits("clock", (worker, i) -> desk.clock(i, i % 3));
        fits("punch", (worker, i) -> desk.punch(worker, i % 3, i % 28, i, false));
        fits("strike", (worker, i) -> desk.strike(worker, i % 28, i % 2 == 0 ? 60 * worker : 900, false));
        fits("undo", (worker, i) -> desk.undo());
        fits("punched", (worker, i) -> desk.punched(worker, i % 60, i % 3));
        fits("span", (worker, i) -> desk.span(worker, i % 30, i % 3));
        fits("quarter", (worker, i) -> desk.quarter(worker, 5 * i, i % 5));
        fits("day", (worker, i) -> desk.day(worker, i % 28, i % 4 - 2));
        fits("week", (worker, i) -> desk.week(worker, i % 4, i % 4 - 2));
        fits("counted", (worker, i) -> desk.counted(worker, i % 4, i % 2 == 0));
        fits("pay", (worker, i) -> desk.pay(worker, i % 4, i % 2 == 0));
        fits("dayPay", (worker, i) -> desk.dayPay(worker, i % 28));
        fits("total", (worker, i) -> desk.total());
        fits("would", (worker, i) -> desk.would(worker, i % 3, i % 28, i, false));
        fits("dearest", (worker, i) -> desk.dearest(worker, i % 3, i % 28));
        fits("worth", (worker, i) -> desk.worth(i % 2));
        fits("together", (worker, i) -> desk.together(worker, (worker + 1) % 4));
        CHECK.end();
    }

    private static long allocated() {
        return THREADS.getThreadAllocatedBytes(Thread.currentThread().getId());
    }

    /** A desk on which much is WORKED, then one call as often as can be: a change in between makes it work anew. */
    private static void fits(String name, IntBinaryOperator call) {
        String rules = "premium week 9 100;premium day 0 70;";
        callsOn(new PremiumHours(), rules, call, 10);
        long before = allocated();
        callsOn(new PremiumHours(), rules, call, CALLS);
        long made = allocated() - before;
        CHECK.same(name + ": " + made + " bytes fit into the room", made < ROOM ? 1 : 0, 1);
    }

    private static void callsOn(PremiumHours fresh, String rules, IntBinaryOperator call, int calls) {
        desk = fresh;
        Desk.tell(desk, rules);
        for (int day = 0; day < 28; day++) {
            for (int worker = 0; worker < 4; worker++) {
                Desk.work(desk, worker, day, 60 * worker, 480);
            }
        }
        for (int i = 0; i < calls; i++) {
            if (i % 9 == 0) {
                desk.punch(i % 4, i % 3, i % 28, 700 + i, false);
            }
            call.applyAsInt(i % 4, i);
        }
    }
}
