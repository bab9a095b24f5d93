/** Promises 23 to 27 at their edges: each method holds the document to one sentence that names a boundary case. */
public final class ReportEdgesTest {
    private static final int NONE = Checks.NONE;
    private static final int VOID = Checks.VOID;
    private static final int LEAST = Integer.MIN_VALUE;
    private static final int GREATEST = Integer.MAX_VALUE;
    private static final Checks checks = new Checks();

    public static void main(String[] args) {
        readersAndTenths();
        reportsThatCannotBe();
        atMostSixtyReports();
        reportsAreOfTheReadingThen();
        duesOfOthers();
        dueAtTheEdgesOfTermZero();
        dueOnTheDayOfTheReport();
        habitOfOne();
        habitOfTwo();
        habitWithoutAny();
        habitsOfOthers();
        badByMoreThanTheBound();
        offIsNeitherBadNorGood();
        boundsThatCannotBe();
        noneIsBad();
        twelveMarks();
        thirteenMarks();
        noHeapDoes();
        lastMarksAsSuspects();
        fourTermsThenTwo();
        suspectsOfOthers();
        counts();
        checks.close();
    }

    /** In the plain house DUE is ten times the sum of both MARKS. */
    private static void report(ThreadCharts x, int reader, int first, int second, int more) {
        x.reading(0, first * 100 + second);
        x.report(reader, 10 * (first + second) + more);
    }

    /** "READERS have numbers 0 .. 7."; "what they read in TENTHS (0 .. 399)" */
    private static void readersAndTenths() {
        for (int reader = -2; reader <= 10; reader++) {
            ThreadCharts x = Checks.plainHouse();
            x.reading(0, 0);
            boolean there = reader >= 0 && reader <= 7;
            checks.due("report of READER " + reader, x.report(reader, 5), there ? 1 : NONE);
            checks.due("REPORTS", x.count(4), there ? 1 : 0);
            checks.due("HABIT of READER " + reader, x.habit(reader), there ? 5 : VOID);
        }
        for (int tenths : new int[] {LEAST, -1, 0, 1, 398, 399, 400, GREATEST}) {
            ThreadCharts x = Checks.plainHouse();
            x.reading(0, tenths < 200 ? 0 : 1919);
            boolean fine = tenths >= 0 && tenths <= 399;
            checks.due("report of " + tenths, x.report(3, tenths), fine ? 1 : NONE);
            checks.due("REPORTS", x.count(4), fine ? 1 : 0);
        }
        ThreadCharts x = Checks.plainHouse();
        x.move(0, 1, 0, 39);
        x.reading(0, 0);
        x.report(0, 399);
        checks.due("399 is 9 more than 390", x.habit(0), 9);
    }

    /** "NONE .. if there is none such, TENTHS can't be": and nothing has changed. */
    private static void reportsThatCannotBe() {
        Refusals open = new Refusals(checks, Houses::open);
        for (int n : new int[] {LEAST, -1, 8, GREATEST}) {
            open.none("report of READER " + n, x -> x.report(n, 100));
        }
        for (int n : new int[] {LEAST, -1, 400, GREATEST}) {
            open.none("report of " + n, x -> x.report(1, n));
        }
    }

    /** "REPORTS (60 at most)"; "NONE .. if 60 came." */
    private static void atMostSixtyReports() {
        ThreadCharts x = Houses.charted(2, 10);
        for (int i = 0; i < 60; i++) {
            x.reading(0, i % 10);
            checks.due("no REPORT " + i + " yet", x.due(i, 0, 0), VOID);
            checks.due("REPORT " + i, x.report(i % 8, 10 * (i % 10)), i + 1);
            checks.due("its DUE", x.due(i, 0, 0), 10 * (i % 10));
        }
        checks.due("one more", x.report(0, 0), NONE);
        checks.due("REPORTS", x.count(4), 60);
        checks.due("no REPORT 60", x.due(60, 0, 0), VOID);
        Refusals full = new Refusals(checks, Houses::brimful);
        full.none("a sixty-first", y -> y.report(0, 0));
        full.none("a sixty-first", y -> y.report(7, 399));
    }

    /** A REPORT keeps its CHART and READING, whatever is read later. */
    private static void reportsAreOfTheReadingThen() {
        ThreadCharts x = Checks.plainHouse();
        x.chart(0, 21, 100, 2020, 0, 0);
        x.reading(0, 305);
        x.report(0, 80);
        x.reading(1, 1102);
        checks.due("DUE stays", x.due(0, 0, 0), 80);
        checks.due("a READING is refused", x.reading(1, 2000), false);
        x.report(0, 0);
        checks.due("a REPORT of the one that stays", x.due(1, 0, 0), 130);
    }

    /** "VOID for others, none such, or BOUND can't be." */
    private static void duesOfOthers() {
        Refusals open = new Refusals(checks, Houses::open);
        for (int n : new int[] {LEAST, -1, 8, 60, GREATEST}) {
            open.isVoid("DUE of REPORT " + n, x -> x.due(n, 5, 0));
            open.isVoid("BAD of REPORT " + n, x -> x.due(n, 5, 1));
        }
        for (int n : new int[] {LEAST, -1, 2, GREATEST}) {
            open.isVoid("due what " + n, x -> x.due(0, 5, n));
        }
        checks.due("the first", Houses.open().due(0, 5, 0) != VOID, true);
        checks.due("the last", Houses.open().due(7, 5, 0) != VOID, true);
    }

    /** "DUE of a REPORT (what 0; NONE: OFF)": TERM 0 is 0 .. 39. */
    private static void dueAtTheEdgesOfTermZero() {
        int[][] due = {{-1, NONE}, {0, 0}, {1, 10}, {38, 380}, {39, 390}, {40, NONE}, {-99999, NONE}, {99999, NONE}};
        for (int[] d : due) {
            ThreadCharts x = Checks.plainHouse();
            x.reading(0, 0);
            x.report(2, 0);
            x.move(0, 1, 0, d[0]);
            checks.due("DUE of READ " + d[0], x.due(0, 0, 0), d[1]);
        }
    }

    /** "DUE of a REPORT is TENTHS of READ AS KNOWN on its DAY.": what is MOVED a DAY later is not known. */
    private static void dueOnTheDayOfTheReport() {
        ThreadCharts x = Checks.plainHouse();
        x.go(1);
        report(x, 0, 1, 1, 0);
        x.move(0, 1, 1, 5);
        checks.due("MOVED on its DAY", x.due(0, 0, 0), 60);
        x.go(1);
        x.move(0, 1, 1, 7);
        checks.due("MOVED a DAY later", x.due(0, 0, 0), 60);
        x.report(0, 0);
        checks.due("a REPORT of that DAY", x.due(1, 0, 0), 80);
        x.paper(0, 0, 50, 50);
        checks.due("of the paper as it is NOW", x.due(0, 0, 0), x.read(1, 1));
    }

    private static boolean isHabit(int more) {
        return more >= -9 && more <= 9;
    }

    /** "HABIT of a READER: the number from -9 to 9" */
    private static void habitOfOne() {
        for (int more = -30; more <= 30; more++) {
            ThreadCharts x = Checks.plainHouse();
            report(x, 5, 9, 9, more);
            checks.due("one REPORT " + more + " more", x.habit(5), isHabit(more) ? more : 0);
        }
    }

    /** "of like ones the nearest to 0, of two the one below 0" */
    private static void habitOfTwo() {
        for (int one = -11; one <= 11; one++) {
            for (int other = -11; other <= 11; other++) {
                ThreadCharts x = Checks.plainHouse();
                report(x, 5, 9, 9, one);
                report(x, 5, 9, 9, other);
                int nearer = Math.abs(one) < Math.abs(other) || one == -Math.abs(other) ? one : other;
                int want = isHabit(one) && isHabit(other) ? nearer : isHabit(one) ? one : isHabit(other) ? other : 0;
                checks.due(one + " and " + other + " more", x.habit(5), want);
                report(x, 5, 9, 9, other);
                int most = isHabit(other) ? other : isHabit(one) ? one : 0;
                checks.due(one + " once and " + other + " twice", x.habit(5), most);
            }
        }
    }

    /** "(with a DUE that isn't OFF)"; "0 without any." */
    private static void habitWithoutAny() {
        ThreadCharts x = Checks.plainHouse();
        checks.due("no REPORT", x.habit(5), 0);
        report(x, 4, 1, 1, 3);
        checks.due("another READER's", x.habit(5), 0);
        x.move(0, 1, 2, 40);
        x.reading(0, 200);
        x.report(5, 3);
        checks.due("DUE is OFF", x.habit(5), 0);
        x.move(0, 1, 2, 39);
        x.report(5, 395);
        checks.due("DUE isn't OFF any more", x.habit(5), 5);
    }

    /** "HABIT of a READER; VOID if there is none such." */
    private static void habitsOfOthers() {
        Refusals open = new Refusals(checks, Houses::open);
        for (int n : new int[] {LEAST, -1, 8, GREATEST}) {
            open.isVoid("HABIT of READER " + n, x -> x.habit(n));
        }
    }

    /** "A REPORT is BAD with a BOUND (0 .. 20), if .. it differs from DUE and HABIT by more; GOOD, if by no more." */
    private static void badByMoreThanTheBound() {
        for (int habit = -9; habit <= 9; habit += 9) {
            for (int more = -35; more <= 35; more++) {
                ThreadCharts x = Checks.plainHouse();
                report(x, 1, 9, 9, habit);
                report(x, 1, 9, 9, habit);
                report(x, 1, 3, 4, more);
                for (int bound = 0; bound <= 20; bound++) {
                    boolean bad = Math.abs(more - habit) > bound;
                    checks.due(more + " more, HABIT " + habit + ", BOUND " + bound, x.due(2, bound, 1), bad ? 1 : 0);
                    checks.due("SUSPECTS of it", x.suspects(0, bound, 0), bad ? 1 : 0);
                }
            }
        }
    }

    private static void offIsNeitherBadNorGood() {
        ThreadCharts x = Checks.plainHouse();
        x.move(0, 1, 4, 40);
        x.reading(0, 400);
        x.report(0, 399);
        for (int bound = 0; bound <= 20; bound++) {
            checks.due("OFF isn't BAD", x.due(0, bound, 1), 0);
            checks.due("without SUSPECTS", x.suspects(0, bound, 0), 0);
        }
        report(x, 1, 3, 0, 30);
        checks.due("200 isn't in a GOOD one", x.suspects(0, 5, 1), 1);
        x.move(0, 1, 4, 39);
        checks.due("it is now", x.suspects(0, 5, 1), 0);
        checks.due("103 alone", x.suspects(0, 5, 2), 103);
    }

    /** "BOUND (0 .. 20)" */
    private static void boundsThatCannotBe() {
        Refusals open = new Refusals(checks, Houses::open);
        for (int n : new int[] {LEAST, -1, 21, GREATEST}) {
            open.isVoid("DUE with BOUND " + n, x -> x.due(0, n, 0));
            open.isVoid("BAD with BOUND " + n, x -> x.due(0, n, 1));
            open.none("SUSPECTS with BOUND " + n, x -> x.suspects(0, n, 0));
            open.none("RIVALS with BOUND " + n, x -> x.suspects(0, n, 1));
        }
        for (int n : new int[] {0, 20}) {
            checks.due("DUE with BOUND " + n, Houses.open().due(0, n, 0) != VOID, true);
        }
    }

    private static void suspects(String name, ThreadCharts x, int... want) {
        for (int what = 0; what < want.length; what++) {
            checks.due(name + ": " + what, x.suspects(0, 5, what), want[what]);
        }
        for (int what = want.length; what < want.length + 3; what++) {
            checks.due(name + ": " + what, x.suspects(0, 5, what), NONE);
        }
    }

    /** "how many (what 0; 0 if none is BAD)" */
    private static void noneIsBad() {
        ThreadCharts x = Checks.plainHouse();
        suspects("no REPORT", x, 0, 0);
        for (int i = 0; i < 20; i++) {
            report(x, 0, i, 19 - i, 0);
        }
        suspects("all are GOOD", x, 0, 0);
        report(x, 0, 4, 5, 5);
        suspects("by no more than 5", x, 0, 0);
        report(x, 0, 4, 5, 6);
        suspects("by more, but in GOOD ones", x);
    }

    /** Six BAD REPORTS with two MARKS each, none of them twice. */
    private static ThreadCharts sixBadOnes() {
        ThreadCharts x = Checks.plainHouse();
        for (int i = 0; i < 6; i++) {
            report(x, 0, i, i, 30);
        }
        return x;
    }

    /** "(Of at most 12 MARKS that are in BAD ones and in no GOOD one ..)" */
    private static void twelveMarks() {
        ThreadCharts x = sixBadOnes();
        suspects("one of two, six times", x, 6, 63, 100, 101, 102, 103, 104, 105);
        report(x, 0, 0, 5, 30);
        suspects("the same MARKS again", x, 6, 47, 100, 101, 102, 103, 104, 105);
    }

    /** "with more .. there is none": until one of 13 is in a GOOD REPORT. */
    private static void thirteenMarks() {
        ThreadCharts x = sixBadOnes();
        report(x, 0, 0, 6, 30);
        suspects("a thirteenth", x);
        report(x, 0, 7, 6, 0);
        suspects("it is in a GOOD one", x, 6, 31, 100, 101, 102, 103, 104, 105);
        ThreadCharts y = sixBadOnes();
        report(y, 0, 6, 6, 30);
        suspects("fourteen", y);
        report(y, 0, 6, 7, 0);
        suspects("thirteen again", y);
        report(y, 0, 7, 0, 0);
        suspects("twelve again", y, 7, 31, 100, 101, 102, 103, 104, 105, 206);
    }

    /** "or if no heap does, there is none." */
    private static void noHeapDoes() {
        ThreadCharts x = Checks.plainHouse();
        report(x, 0, 1, 1, 0);
        report(x, 0, 2, 2, 0);
        report(x, 0, 3, 3, 30);
        suspects("one of two", x, 1, 1, 103);
        report(x, 0, 1, 2, 30);
        suspects("one BAD one has no MARK that could be", x);
        ThreadCharts y = Checks.plainHouse();
        report(y, 0, 1, 2, 0);
        report(y, 0, 1, 2, 30);
        suspects("GOOD and BAD alike", y);
        ThreadCharts z = Checks.plainHouse();
        report(z, 0, 3, 3, 30);
        report(z, 0, 4, 4, 30);
        suspects("one of two, twice", z, 2, 3, 103, 104);
        report(z, 0, 4, 5, 0);
        suspects("one MARK of the second one is in a GOOD one", z, 2, 1, 103, 204);
        report(z, 0, 5, 4, 0);
        suspects("both are", z);
    }

    /** "TERM * 100 + MARK": of the last TERM the last MARK that can be. */
    private static void lastMarksAsSuspects() {
        ThreadCharts x = Checks.withRule("c=a+b+d+e;");
        for (int t = 0; t < 5; t++) {
            x.range(0, t, 0, t == 0 ? 5 : 1, 40);
        }
        x.chart(0, 4321, 100, 1010, 1010, 1010);
        x.reading(0, 0);
        x.report(0, 0);
        x.reading(0, 39000000);
        x.report(0, 200);
        suspects("439", x, 1, 0, 439);
        x.reading(0, 39);
        x.report(0, 200);
        suspects("139 too", x, 2, 0, 139, 439);
        x.reading(0, 39000039);
        x.report(0, 300);
        suspects("and one with both", x, 2, 0, 139, 439);
    }

    /** What was looked at for a CHART of four TERMS is nothing to one of two. */
    private static void fourTermsThenTwo() {
        ThreadCharts x = Houses.charted(2, 20);
        Checks.tell(x, "c=a+b+d+e;");
        x.rule();
        for (int t = 0; t < 5; t++) {
            x.range(1, t, 0, t == 0 ? 5 : 1, 40);
        }
        x.chart(1, 3412, 100, 1010, 1010, 1010);
        for (int marks : new int[] {304, 708}) {
            x.reading(0, marks);
            x.report(0, x.read(0, 1) + 30);
        }
        x.reading(1, 1020708);
        x.report(0, x.read(0, 1) + 30);
        suspects("CHART 0", x, 2, 3, 103, 107);
        checks.due("CHART 1", x.suspects(1, 5, 0), 1);
        checks.due("CHART 1", x.suspects(1, 5, 1), 3);
        checks.due("CHART 1", x.suspects(1, 5, 2), 107);
        suspects("CHART 0 again", x, 2, 3, 103, 107);
    }

    /** "NONE for others, or if there is none." */
    private static void suspectsOfOthers() {
        Refusals open = new Refusals(checks, Houses::open);
        for (int n : new int[] {LEAST, -1, 2, 6, GREATEST}) {
            open.none("SUSPECTS of CHART " + n, x -> x.suspects(n, 5, 0));
        }
        int many = Houses.open().suspects(0, 5, 0);
        checks.due("there are some", many > 0, true);
        for (int n : new int[] {LEAST, -1, many + 2, many + 3, GREATEST}) {
            open.none("SUSPECTS what " + n, x -> x.suspects(0, 5, n));
        }
        checks.due("the last one", Houses.open().suspects(0, 5, many + 1) != NONE, true);
    }

    /** "0 NOW, 1 RULES, .. 7 the CHART of the READING (NONE). NONE for others." */
    private static void counts() {
        int[] full = {300, 6, 6, 40, 60, 4, 120};
        for (int what = 0; what < full.length; what++) {
            checks.due("count(" + what + ") of a full house", Houses.brimful().count(what), full[what]);
        }
        checks.due("no READING", Houses.charted(2, 10).count(7), NONE);
        ThreadCharts x = Houses.brimful();
        for (int c = 0; c < 6; c++) {
            checks.due("reading", x.reading(c, 0), true);
            checks.due("CHART of the READING", x.count(7), c);
        }
        Refusals open = new Refusals(checks, Houses::open);
        for (int n : new int[] {LEAST, -2, -1, 8, 9, GREATEST}) {
            open.none("count(" + n + ")", y -> y.count(n));
        }
    }
}
