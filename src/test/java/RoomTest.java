import com.sun.management.ThreadMXBean;
import java.lang.management.ManagementFactory;

/** The dearest calls, many times each: what is made must stay small, since all of a run lives in one room. */
public final class RoomTest {
    /** With those that build the house not more than the 512 calls of which the document tells. */
    private static final int CALLS = 130;
    private static final long MOST_BYTES_FOR_A_HOUSE = 40_000;
    private static final long MOST_BYTES_FOR_CALLS = 1_000;
    private static final Checks checks = new Checks();
    private static final ThreadMXBean bean = (ThreadMXBean) ManagementFactory.getThreadMXBean();

    private interface Call {
        int on(ThreadCharts x, int i);
    }

    public static void main(String[] args) {
        fullHouse();
        long before = made();
        fullHouse();
        checks.due("a full house is small", made() - before < MOST_BYTES_FOR_A_HOUSE, true);
        small("fault", (t, i) -> t.fault());
        small("sharpest", (t, i) -> t.sharpest(0, 50, i % 2));
        small("finest", (t, i) -> t.finest(0, 30000, 0));
        small("suspects", (t, i) -> t.suspects(0, 5, i % 5));
        small("habit", (t, i) -> t.habit(i % 8));
        small("due", (t, i) -> t.paper(0, i, 50, -50) ? t.due(i % 60, 5, 1) : 0);
        small("read", (t, i) -> t.read(0, i % 3));
        small("lead", (t, i) -> t.lead(i % 3, i % 4));
        small("span", (t, i) -> t.span(i % 51, true));
        small("page", (t, i) -> t.page(0, i % 3, 1));
        small("swelled", (t, i) -> t.swelled(0, i, true));
        small("a chart too many", (t, i) -> t.chart(0, 1234, 100, 1010, 1010, 1010));
        checks.close();
    }

    private static long made() {
        return bean.getThreadAllocatedBytes(Thread.currentThread().getId());
    }

    private static void small(String name, Call call) {
        ThreadCharts x = fullHouse();
        call.on(x, 0);
        long before = made();
        for (int i = 0; i < CALLS; i++) {
            call.on(x, i);
        }
        long more = made() - before;
        checks.due(CALLS + " times " + name + " makes " + more + " bytes: is it small", more < MOST_BYTES_FOR_CALLS, true);
    }

    private static ThreadCharts fullHouse() {
        ThreadCharts x = new ThreadCharts();
        for (int r = 0; r < 6; r++) {
            Checks.tell(x, "c = a + b + d + e;");
            x.rule();
            for (int t = 0; t < 5; t++) {
                x.range(r, t, 0, 1, 40);
            }
            x.chart(r, 1234, 100, 1010, 1010, 1010);
        }
        x.list(1);
        x.list(2);
        x.list(3);
        x.list(50);
        for (int i = 0; i < 40; i++) {
            x.move(0, 1, i, i);
        }
        for (int i = 0; i < 60; i++) {
            x.reading(0, i % 3);
            x.report(i % 8, i < 3 ? 200 : 10 * (i % 3));
        }
        Checks.tell(x, "c = a + b + 1234 + 1234 + 1234 + 1234 + 1234 + 1234 + 1234 + 1234 + 1234 + 1234 + 1234 + 1234 + 1234 + d + e;");
        return x;
    }
}
