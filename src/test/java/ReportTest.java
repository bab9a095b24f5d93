/** Promises 23 to 27: report, due, habit, suspects, count. */
public final class ReportTest {
    private static final int NONE = Checks.NONE;
    private static final int VOID = Checks.VOID;
    private static final Checks checks = new Checks();

    public static void main(String[] args) {
        wrongReports();
        sixtyReports();
        dues();
        duesAsKnown();
        duesOnPaper();
        duesThatAreOff();
        habits();
        habitsOverCharts();
        bounds();
        suspectsWithoutBadOnes();
        oneSuspect();
        goodOnesClear();
        offOnesSayNothing();
        reportsOfAnotherChart();
        twelveCandidates();
        manyBadOnes();
        boundsOneBehindTheOther();
        orderOfHeaps();
        suspectsOfFourTerms();
        counts();
        checks.close();
    }

    /** In the plain house DUE is ten times the sum of both MARKS. */
    private static void report(ThreadCharts x, int reader, int first, int second, int more) {
        x.reading(0, first * 100 + second);
        x.report(reader, 10 * (first + second) + more);
    }

    private static void wrongReports() {
        ThreadCharts x = Checks.plainHouse();
        checks.due("without a reading", x.report(0, 0), NONE);
        x.reading(0, 0);
        checks.due("no reader", x.report(-1, 0), NONE);
        checks.due("no reader", x.report(8, 0), NONE);
        checks.due("tenths", x.report(0, -1), NONE);
        checks.due("tenths", x.report(0, 400), NONE);
        checks.due("tenths", x.report(0, VOID), NONE);
        checks.due("none", x.count(4), 0);
        checks.due("edge", x.report(0, 0), 1);
        checks.due("edge", x.report(7, 399), 2);
        checks.due("two", x.count(4), 2);
    }

    private static void sixtyReports() {
        ThreadCharts x = Checks.plainHouse();
        x.reading(0, 101);
        for (int i = 1; i <= 60; i++) {
            checks.due("report", x.report(i % 8, 20), i);
        }
        checks.due("one more", x.report(0, 20), NONE);
        checks.due("sixty", x.count(4), 60);
        checks.due("the last", x.due(59, 0, 0), 20);
        checks.due("none behind it", x.due(60, 0, 0), VOID);
    }

    private static void dues() {
        ThreadCharts x = Checks.plainHouse();
        checks.due("none yet", x.due(0, 0, 0), VOID);
        report(x, 0, 3, 5, 5);
        report(x, 1, 12, 7, 0);
        checks.due("due 0", x.due(0, 0, 0), 80);
        checks.due("due 1", x.due(1, 20, 0), 190);
        checks.due("what 2", x.due(0, 0, 2), VOID);
        checks.due("what -1", x.due(0, 0, -1), VOID);
        checks.due("no report", x.due(2, 0, 0), VOID);
        checks.due("no report", x.due(-1, 0, 0), VOID);
        checks.due("bound", x.due(0, 21, 0), VOID);
        checks.due("bound", x.due(0, -1, 0), VOID);
        checks.due("bound", x.due(0, 21, 1), VOID);
        x.reading(0, 0);
        checks.due("of its own reading", x.due(0, 0, 0), 80);
    }

    private static void duesAsKnown() {
        ThreadCharts x = Checks.plainHouse();
        x.go(3);
        report(x, 0, 3, 5, 0);
        checks.due("at first", x.due(0, 0, 0), 80);
        x.move(0, 1, 3, 13);
        checks.due("moved on its day", x.due(0, 0, 0), 180);
        x.go(1);
        report(x, 0, 3, 5, 0);
        x.move(0, 1, 3, 10);
        checks.due("moved behind its day", x.due(0, 0, 0), 180);
        checks.due("moved on the other's day", x.due(1, 0, 0), 150);
        checks.due("habit of 100 and 70 less", x.habit(0), 0);
    }

    private static void duesOnPaper() {
        ThreadCharts x = Checks.plainHouse();
        report(x, 0, 0, 19, 0);
        checks.due("flat", x.due(0, 0, 0), 190);
        x.paper(0, 100, 0, -50);
        // 190 lies at 100 and 90 less 4: 186; half is 93, and 93 by 5 is 19.
        checks.due("above", x.due(0, 0, 0), 190);
        x.paper(0, 0, 0, -50);
        // 190 lies at 181; half is 91, where 95 lies (95 less 4): 19.
        checks.due("all above", x.due(0, 0, 0), 190);
        x.paper(0, 90, 50, -50);
        // 0 lies at 0; 90 at 94, 190 at 94 and 95: 189; half is 95, where 91 lies: 91 by 5 is 18.
        checks.due("below and above", x.due(0, 0, 0), 180);
        checks.due("habit with it", x.habit(0), 0);
        x.paper(0, 0, 0, 0);
        checks.due("flat again", x.due(0, 0, 0), 190);
    }

    private static void duesThatAreOff() {
        ThreadCharts x = Checks.plainHouse();
        x.move(0, 1, 4, 1000);
        report(x, 0, 4, 4, 0);
        checks.due("OFF", x.due(0, 0, 0), NONE);
        checks.due("OFF isn't BAD", x.due(0, 0, 1), 0);
        checks.due("habit without", x.habit(0), 0);
        x.reading(0, 404);
        x.report(1, 5);
        x.report(1, 5);
        report(x, 1, 2, 2, -3);
        checks.due("OFF isn't counted", x.habit(1), -3);
    }

    private static int habitOf(int... mores) {
        ThreadCharts x = Checks.plainHouse();
        for (int more : mores) {
            report(x, 3, 9, 9, more);
        }
        checks.due("another reader", x.habit(4), 0);
        return x.habit(3);
    }

    private static void habits() {
        checks.due("without any", habitOf(), 0);
        checks.due("one", habitOf(5), 5);
        checks.due("one below", habitOf(-9), -9);
        checks.due("9", habitOf(9), 9);
        checks.due("1", habitOf(1), 1);
        checks.due("-1", habitOf(-1), -1);
        checks.due("10", habitOf(10), 0);
        checks.due("-10", habitOf(-10, -10, -10), 0);
        checks.due("10 and 9", habitOf(10, 10, 9), 9);
        checks.due("the most", habitOf(5, 5, 0), 5);
        checks.due("nearest to 0", habitOf(5, 0), 0);
        checks.due("nearest to 0", habitOf(-3, 2), 2);
        checks.due("nearest to 0", habitOf(3, -2), -2);
        checks.due("of two the one below 0", habitOf(3, -3), -3);
        checks.due("of two the one below 0", habitOf(-3, 3), -3);
        checks.due("two of both", habitOf(-9, 9, 1, 9, -9), -9);
        checks.due("three of one", habitOf(-9, 9, 1, 9, -9, 9), 9);
        ThreadCharts x = Checks.plainHouse();
        checks.due("no reader", x.habit(-1), VOID);
        checks.due("no reader", x.habit(8), VOID);
        checks.due("reader 7", x.habit(7), 0);
        for (int reader = 0; reader < 8; reader++) {
            for (int i = 0; i <= reader; i++) {
                report(x, reader, 9, 9, reader - 3);
            }
        }
        for (int reader = 7; reader >= 0; reader--) {
            checks.due("each reader has their own", x.habit(reader), reader - 3);
        }
        for (int reader = 0; reader < 8; reader++) {
            checks.due("asked again", x.habit(reader), reader - 3);
        }
    }

    private static void habitsOverCharts() {
        ThreadCharts x = Checks.plainHouse();
        x.chart(0, 21, 100, 1010, 0, 0);
        report(x, 0, 1, 1, 4);
        x.reading(1, 202);
        x.report(0, 47);
        x.report(0, 47);
        checks.due("of all charts", x.habit(0), 7);
        checks.due("BAD by that", x.due(0, 2, 1), 1);
        checks.due("GOOD by that", x.due(0, 3, 1), 0);
    }

    private static void bounds() {
        ThreadCharts x = Checks.plainHouse();
        report(x, 0, 5, 5, 3);
        report(x, 0, 5, 5, 3);
        report(x, 0, 6, 6, 10);
        report(x, 0, 7, 7, -4);
        checks.due("habit", x.habit(0), 3);
        checks.due("just the habit", x.due(0, 0, 1), 0);
        checks.due("7 more than 6", x.due(2, 6, 1), 1);
        checks.due("7 is no more than 7", x.due(2, 7, 1), 0);
        checks.due("7 less, 6", x.due(3, 6, 1), 1);
        checks.due("7 less, 7", x.due(3, 7, 1), 0);
        checks.due("bound 20", x.due(3, 20, 1), 0);
        checks.due("bound 0", x.due(3, 0, 1), 1);
    }

    private static void suspects(String name, ThreadCharts x, int bound, int... want) {
        for (int what = 0; what < want.length; what++) {
            checks.due(name + ", what " + what, x.suspects(0, bound, what), want[what]);
        }
        checks.due(name + ", one more", x.suspects(0, bound, want.length), NONE);
        checks.due(name + ", many more", x.suspects(0, bound, 2147483647), NONE);
        checks.due(name + ", what -1", x.suspects(0, bound, -1), NONE);
    }

    private static void suspectsWithoutBadOnes() {
        ThreadCharts x = Checks.plainHouse();
        suspects("no reports", x, 5, 0, 0);
        report(x, 0, 1, 1, 0);
        suspects("a GOOD one", x, 5, 0, 0);
        checks.due("bound", x.suspects(0, 21, 0), NONE);
        checks.due("bound", x.suspects(0, -1, 0), NONE);
        checks.due("no chart", x.suspects(1, 5, 0), NONE);
        checks.due("no chart", x.suspects(-1, 5, 0), NONE);
        checks.due("least", x.suspects(0, 5, VOID), NONE);
    }

    private static void oneSuspect() {
        ThreadCharts x = Checks.plainHouse();
        report(x, 0, 1, 1, 0);
        report(x, 0, 2, 2, 0);
        report(x, 0, 7, 8, 30);
        suspects("either MARK", x, 5, 1, 1, 107);
        report(x, 0, 7, 2, 0);
        suspects("107 is in a GOOD one", x, 5, 1, 0, 208);
        suspects("so it is with 20", x, 20, 1, 0, 208);
        report(x, 0, 3, 8, -30);
        suspects("208 is in both", x, 5, 1, 0, 208);
    }

    private static void goodOnesClear() {
        ThreadCharts x = Checks.plainHouse();
        report(x, 0, 1, 1, 0);
        report(x, 0, 2, 2, 0);
        report(x, 0, 1, 2, 30);
        suspects("both MARKS are in GOOD ones", x, 5);
        ThreadCharts y = Checks.plainHouse();
        report(y, 0, 1, 1, 0);
        report(y, 0, 2, 2, 0);
        report(y, 0, 5, 5, 30);
        report(y, 0, 1, 2, 30);
        suspects("one of two can't be told", y, 5);
        suspects("order of reports is nothing", y, 20);
    }

    private static void offOnesSayNothing() {
        ThreadCharts x = Checks.plainHouse();
        x.move(0, 1, 4, 1000);
        report(x, 0, 4, 6, 0);
        report(x, 1, 1, 1, 0);
        report(x, 1, 2, 2, 0);
        report(x, 1, 3, 6, 30);
        suspects("206 is in an OFF one", x, 5, 1, 1, 103);
    }

    private static void reportsOfAnotherChart() {
        ThreadCharts x = Checks.plainHouse();
        x.chart(0, 21, 100, 1010, 0, 0);
        report(x, 0, 1, 1, 0);
        report(x, 0, 2, 2, 0);
        report(x, 0, 3, 4, 30);
        x.reading(1, 403);
        x.report(0, 70);
        x.reading(1, 506);
        x.report(0, 150);
        suspects("chart 0 alone", x, 5, 1, 1, 103);
        checks.due("chart 1", x.suspects(1, 5, 0), 1);
        checks.due("chart 1", x.suspects(1, 5, 1), 1);
        checks.due("chart 1 has b first", x.suspects(1, 5, 2), 106);
    }

    private static void twelveCandidates() {
        ThreadCharts x = Checks.plainHouse();
        report(x, 0, 18, 18, 0);
        for (int i = 0; i < 6; i++) {
            report(x, 0, i + 1, 12 - i, 15 + i);
        }
        suspects("six of twelve", x, 5, 6, 63, 101, 102, 103, 104, 105, 106);
        report(x, 0, 1, 18, 30);
        suspects("one of them twice", x, 5, 6, 31, 101, 102, 103, 104, 105, 106);
        report(x, 0, 10, 18, 30);
        suspects("thirteen", x, 5);
        suspects("with 20 the MARKS of both BAD ones are in GOOD ones", x, 20);
        report(x, 0, 10, 18, 0);
        suspects("the thirteenth is in a GOOD one, and in a BAD one with none", x, 5);
    }

    private static void manyBadOnes() {
        ThreadCharts x = Checks.plainHouse();
        for (int i = 0; i < 60; i++) {
            report(x, i % 8, 1 + i % 3, i < 30 ? 4 : 5, 30);
        }
        suspects("60 BAD ones", x, 5, 2, 0, 204, 205);
    }

    private static void boundsOneBehindTheOther() {
        ThreadCharts x = Checks.plainHouse();
        report(x, 0, 1, 1, 0);
        report(x, 0, 2, 2, 0);
        report(x, 0, 3, 4, 15);
        report(x, 0, 5, 6, -18);
        for (int i = 0; i < 2; i++) {
            suspects("none with 20", x, 20, 0, 0);
            suspects("one with 16", x, 16, 1, 1, 105);
            suspects("two with 5", x, 5, 2, 3, 103, 105);
        }
        x.move(0, 1, 5, 1000);
        suspects("the second is OFF now", x, 5, 1, 1, 103);
    }

    private static void orderOfHeaps() {
        ThreadCharts x = Checks.plainHouse();
        report(x, 0, 19, 19, 0);
        // 109 and 203, 108 and 204, 108 and 203: 108 with 109 or 203, or 203 with 204.
        report(x, 0, 9, 3, 30);
        report(x, 0, 8, 4, 30);
        report(x, 0, 8, 3, 30);
        suspects("three heaps", x, 5, 2, 2, 108, 109);
        report(x, 0, 7, 3, 30);
        suspects("109 no more", x, 5, 2, 1, 108, 203);
        report(x, 0, 8, 19, 0);
        suspects("108 is in a GOOD one", x, 5, 2, 0, 203, 204);
    }

    private static void suspectsOfFourTerms() {
        ThreadCharts x = Checks.withRule("c = a + b + d + e;");
        for (int t = 0; t < 5; t++) {
            x.range(0, t, 0, 1, t == 0 ? 40 : 10);
        }
        x.chart(0, 4231, 100, 1010, 1010, 1010);
        x.reading(0, 1020304);
        checks.due("DUE", x.read(0, 1), 100);
        x.report(0, 100);
        x.reading(0, 1020309);
        x.report(0, 180);
        suspects("TERM 1's MARK 9", x, 5, 1, 0, 109);
        x.reading(0, 5060708);
        x.report(0, 300);
        suspects("one of four more", x, 5, 2, 3, 108, 109);
    }

    private static void counts() {
        ThreadCharts x = Checks.plainHouse();
        x.chart(0, 12, 100, 1010, 0, 0);
        x.reading(1, 0);
        x.go(7);
        Checks.tell(x, "hello");
        x.move(0, 1, 0, 0);
        x.move(0, 1, 0, 0);
        x.move(0, 1, 0, 0);
        for (int i = 0; i < 4; i++) {
            x.report(0, 0);
        }
        x.list(4);
        int[] want = {7, 1, 2, 3, 4, 1, 5, 1};
        for (int what = 0; what < want.length; what++) {
            checks.due("count(" + what + ")", x.count(what), want[what]);
        }
        checks.due("count(8)", x.count(8), NONE);
        checks.due("count(-1)", x.count(-1), NONE);
        checks.due("count(least)", x.count(VOID), NONE);
    }
}
