/** Promises 19 and 20: paper and swelled; and what READ and LEAD are on swelled paper. */
public final class PaperTest {
    private static final int VOID = Checks.VOID;
    private static final Checks checks = new Checks();

    public static void main(String[] args) {
        wrongPaper();
        flatPaper();
        swelling();
        shrinking();
        seamBelowZero();
        farPoints();
        backIsTheGreatest();
        readingOnPaper();
        eachChartItsOwn();
        checks.close();
    }

    private static void wrongPaper() {
        ThreadCharts x = Checks.plainHouse();
        checks.due("paper", x.paper(0, 10, 20, 30), true);
        checks.due("no chart", x.paper(1, 0, 0, 0), false);
        checks.due("no chart", x.paper(-1, 0, 0, 0), false);
        checks.due("seam", x.paper(0, 30001, 0, 0), false);
        checks.due("seam", x.paper(0, -30001, 0, 0), false);
        checks.due("low", x.paper(0, 0, 51, 0), false);
        checks.due("low", x.paper(0, 0, -51, 0), false);
        checks.due("up", x.paper(0, 0, 0, 51), false);
        checks.due("up", x.paper(0, 0, 0, -51), false);
        checks.due("low least", x.paper(0, 0, VOID, 0), false);
        // 10 + 0, and 990 + 29.
        checks.due("nothing changed", x.swelled(0, 1000, false), 10 + 990 + 29);
        checks.due("edges", x.paper(0, 30000, 50, -50), true);
        checks.due("edges", x.paper(0, -30000, -50, 50), true);
    }

    private static void both(ThreadCharts x, int y, int lies, int back) {
        checks.due("swelled(0, " + y + ", false)", x.swelled(0, y, false), lies);
        checks.due("swelled(0, " + y + ", true)", x.swelled(0, y, true), back);
    }

    private static void flatPaper() {
        ThreadCharts x = Checks.plainHouse();
        for (int y : new int[] {-100000, -1, 0, 1, 77, 100000}) {
            both(x, y, y, y);
        }
        both(x, 100001, VOID, VOID);
        both(x, -100001, VOID, VOID);
        both(x, VOID, VOID, VOID);
        checks.due("no chart", x.swelled(1, 0, false), VOID);
        checks.due("no chart", x.swelled(-1, 0, true), VOID);
    }

    private static void swelling() {
        ThreadCharts x = Checks.plainHouse();
        x.paper(0, 1000, 50, 50);
        both(x, 0, 0, 0);
        both(x, 19, 19, 19);
        // 20 lies at 21: at 20 the place read is still 19.
        both(x, 20, 21, 19);
        both(x, 21, 22, 20);
        both(x, -19, -19, -19);
        // Cut toward 0: -20 lies at -21, and -19 at -19, above -20.
        both(x, -20, -21, -20);
        both(x, 1000, 1050, 953);
        both(x, 1001, 1051, 954);
        both(x, 1019, 1069, 971);
        both(x, 1020, 1071, 972);
    }

    private static void shrinking() {
        ThreadCharts x = Checks.plainHouse();
        x.paper(0, 1000, -50, 0);
        // 19 and 20 both lie at 19: the greatest is read.
        both(x, 19, 19, 20);
        both(x, 20, 19, 21);
        both(x, -19, -19, -19);
        both(x, -20, -19, -21);
        // 1000 lies at 950; above the SEAM nothing swells any more.
        both(x, 1000, 950, 1050);
        both(x, 1100, 1050, 1150);
    }

    private static void seamBelowZero() {
        ThreadCharts x = Checks.plainHouse();
        x.paper(0, -100, 50, -50);
        both(x, -100, -105, -95);
        both(x, -101, -106, -96);
        // -105, and 100, less 5.
        both(x, 0, -10, 10);
        checks.due("at -10", x.swelled(0, -10, true), 0);
        checks.due("at -105", x.swelled(0, -105, true), -100);
        checks.due("at -106", x.swelled(0, -106, true), -101);
        x.paper(0, 0, 1, 0);
        both(x, -999, -999, -999);
        both(x, -1000, -1001, -1000);
        both(x, 1000, 1000, 1000);
    }

    private static void farPoints() {
        ThreadCharts x = Checks.plainHouse();
        x.paper(0, 30000, 50, 50);
        both(x, 100000, 105000, 95239);
        both(x, -100000, -105000, -95239);
        x.paper(0, 30000, -50, 50);
        both(x, 100000, 102000, 98096);
        both(x, -100000, -95000, -105263);
        x.paper(0, -30000, -50, -50);
        // -30000 lies at -28500; 130000 more is 123500 more. At 100000: 135263 less 6763 is 128500.
        both(x, 100000, 95000, 105263);
    }

    /** The greatest place that lies not above y: the next one lies above it. */
    private static void backIsTheGreatest() {
        int[][] papers = {{0, 50, -50}, {0, -50, 50}, {7, -50, -50}, {-333, 49, 37}, {30000, -31, 3}, {-30000, 17, -50}};
        for (int[] p : papers) {
            ThreadCharts x = Checks.plainHouse();
            x.paper(0, p[0], p[1], p[2]);
            for (int y = -1000; y <= 1000; y += 37) {
                int back = x.swelled(0, y, true);
                checks.due("at or below " + y, x.swelled(0, back, false) <= y, true);
                checks.due("the next is above " + y, x.swelled(0, back + 1, false) > y, true);
            }
        }
    }

    private static void readingOnPaper() {
        ThreadCharts x = Checks.plainHouse();
        x.reading(0, 1217);
        x.paper(0, 100, 0, 50);
        // 120 lies at 121, 170 at 173: they meet at 121 and 26, where 144 lies: 145 by 5 (of 28 and 29) is 29.
        checks.due("left", x.lead(0, 0), 121);
        checks.due("right", x.lead(0, 1), 173);
        checks.due("meets", x.lead(0, 2), 147);
        checks.due("place read", x.swelled(0, 147, true), 145);
        checks.due("sum", x.lead(0, 3), 29);
        x.paper(0, 125, 50, -50);
        // 120 lies at 126; 125 at 131, 170 at 131 and 45 less 2: 174. 48 by 2 is 24: at 150; 144 lies at 131 and 19.
        checks.due("left", x.lead(0, 0), 126);
        checks.due("right", x.lead(0, 1), 174);
        checks.due("meets", x.lead(0, 2), 150);
        checks.due("place read", x.swelled(0, 150, true), 145);
        x.paper(0, -30000, 0, 50);
        // -30000 and 30120 and 1506: 1626; right 1678; they meet at 1652, which 145 lies at.
        checks.due("left", x.lead(0, 0), 1626);
        checks.due("right", x.lead(0, 1), 1678);
        checks.due("meets", x.lead(0, 2), 1652);
        checks.due("read", x.read(0, 0), 29);
        checks.due("exact", x.read(0, 2), 29);
        x.paper(0, 0, 0, 0);
        checks.due("flat again", x.lead(0, 0), 120);
    }

    private static void eachChartItsOwn() {
        ThreadCharts x = Checks.plainHouse();
        x.chart(0, 12, 100, 1010, 0, 0);
        x.paper(1, 0, 50, 50);
        checks.due("chart 0", x.swelled(0, 100, false), 100);
        checks.due("chart 1", x.swelled(1, 100, false), 105);
    }
}
