/** Promises 7 and 8: range and mark. */
public final class RangeTest {
    private static final int NONE = Checks.NONE;
    private static final int VOID = Checks.VOID;
    private static final Checks checks = new Checks();

    public static void main(String[] args) {
        plainRanges();
        squaredRanges();
        turnedRanges();
        wrongRanges();
        toldOnce();
        checks.close();
    }

    private static void marks(ThreadCharts x, int term, int... want) {
        for (int m = 0; m < want.length; m++) {
            checks.due("mark(0, " + term + ", " + m + ")", x.mark(0, term, m), want[m]);
        }
        checks.due("no more marks of " + term, x.mark(0, term, want.length), VOID);
        checks.due("no mark below 0 of " + term, x.mark(0, term, -1), VOID);
    }

    private static void plainRanges() {
        ThreadCharts x = Checks.withRule("c = a - b + d;");
        checks.due("no marks yet", x.mark(0, 1, 0), VOID);
        checks.due("41 marks to 999", x.range(0, 0, 959, 1, 41), NONE);
        checks.due("to 999", x.range(0, 0, 960, 1, 40), 40);
        checks.due("above 999", x.range(0, 1, -1, 500, 4), NONE);
        checks.due("below -999", x.range(0, 1, -1000, 1, 2), NONE);
        checks.due("from -999", x.range(0, 1, -999, 500, 4), 4);
        marks(x, 1, -999, -499, 1, 501);
        // F is told without the SIGN.
        checks.due("a TERM taken away", x.range(0, 2, 5, 3, 2), 2);
        marks(x, 2, 5, 8);
        checks.due("to 999 by 500", x.range(0, 3, -1, 500, 3), 3);
        marks(x, 3, -1, 499, 999);
    }

    private static void squaredRanges() {
        ThreadCharts x = Checks.withRule("c*c = a*a - b*b;");
        checks.due("below 0", x.range(0, 0, -1, 1, 2), NONE);
        checks.due("above 99", x.range(0, 0, 0, 50, 3), NONE);
        checks.due("from 99", x.range(0, 0, 99, 1, 2), NONE);
        checks.due("to 99", x.range(0, 0, 0, 33, 4), 4);
        marks(x, 0, 0, 1089, 4356, 9801);
        checks.due("by 2", x.range(0, 2, 1, 2, 3), 3);
        marks(x, 2, 1, 9, 25);
    }

    private static void turnedRanges() {
        ThreadCharts x = Checks.withRule("/c = /a - /b;");
        checks.due("from 0", x.range(0, 0, 0, 1, 2), NONE);
        checks.due("above 999", x.range(0, 0, 500, 500, 2), NONE);
        checks.due("from 1", x.range(0, 0, 1, 1, 12), 12);
        marks(x, 0, 10000, 5000, 3333, 2500, 2000, 1667, 1429, 1250, 1111, 1000, 909, 833);
        // 10000 by 16 is 625, by 32 it is 312 and a half, by 64 it is 156 and a quarter.
        checks.due("by halves", x.range(0, 1, 16, 16, 4), 4);
        marks(x, 1, 625, 313, 208, 156);
        checks.due("to 999", x.range(0, 2, 997, 1, 3), 3);
        marks(x, 2, 10, 10, 10);
    }

    private static void wrongRanges() {
        ThreadCharts x = Checks.withRule("c = a + b;");
        checks.due("no rule 1", x.range(1, 0, 0, 1, 2), NONE);
        checks.due("no rule -1", x.range(-1, 0, 0, 1, 2), NONE);
        checks.due("no term 3", x.range(0, 3, 0, 1, 2), NONE);
        checks.due("no term -1", x.range(0, -1, 0, 1, 2), NONE);
        checks.due("step 0", x.range(0, 0, 0, 0, 2), NONE);
        checks.due("step -1", x.range(0, 0, 0, -1, 2), NONE);
        checks.due("step 501", x.range(0, 0, 0, 501, 2), NONE);
        checks.due("one mark", x.range(0, 0, 0, 1, 1), NONE);
        checks.due("41 marks", x.range(0, 0, 0, 1, 41), NONE);
        checks.due("marks below 0", x.range(0, 0, 0, 1, -2), NONE);
        checks.due("from far above", x.range(0, 0, Integer.MAX_VALUE, 500, 40), NONE);
        checks.due("from far below", x.range(0, 0, VOID, 500, 40), NONE);
        for (int t = -1; t < 5; t++) {
            checks.due("nothing was told of " + t, x.mark(0, t, 0), VOID);
        }
        checks.due("step 500", x.range(0, 0, 0, 500, 2), 2);
        checks.due("mark of no rule", x.mark(1, 0, 0), VOID);
        checks.due("mark of rule -1", x.mark(-1, 0, 0), VOID);
    }

    private static void toldOnce() {
        ThreadCharts x = Checks.withRule("c = a + b;");
        checks.due("told", x.range(0, 1, 3, 1, 5), 5);
        checks.due("told again", x.range(0, 1, 4, 1, 6), NONE);
        marks(x, 1, 3, 4, 5, 6, 7);
    }
}
