import java.util.Arrays;

/** Promises 7 to 15 at their edges: each method holds the document to one sentence that names a boundary case. */
public final class ChartEdgesTest {
    private static final int NONE = Checks.NONE;
    private static final int VOID = Checks.VOID;
    private static final int LEAST = Integer.MIN_VALUE;
    private static final int GREATEST = Integer.MAX_VALUE;
    private static final int PLAIN = 0;
    private static final int SQUARED = 1;
    private static final int TURNED = 2;
    private static final Checks checks = new Checks();

    public static void main(String[] args) {
        stepsAndMarks();
        valuesOfF();
        turnedNumbersOfTwoTheGreater();
        rangesAreToldOnce();
        rangesThatCannotBe();
        marksOfOthers();
        chartsNeedAllRanges();
        ordersOfAllTerms();
        wides();
        moduli();
        pagesThatAreNotThere();
        atMostSixCharts();
        chartsThatCannotBe();
        midIsCut();
        nearestBelowZero();
        marksOfAReading();
        readingsOfFourTerms();
        readingsThatAreRefused();
        withoutAReading();
        daysOfRead();
        tenthsOff();
        tenthsOfLikeOnes();
        pagesOfLead();
        eyes();
        pagesAndTheirTall();
        widthOfFirstAndLastMarks();
        sharpestOfOthers();
        numbersBehindTheLast();
        checks.close();
    }

    /** A new RULE whose TERM 1 is plain, TERM 2 squared, TERM 3 turned. */
    private static ThreadCharts threeKinds() {
        return Checks.withRule("c=a-b*b+/d;");
    }

    private static int numberOf(int kind, int value) {
        return kind == PLAIN ? value : kind == SQUARED ? value * value : (20000 + value) / (2 * value);
    }

    private static void ranged(int kind, int from, int step, int many) {
        ThreadCharts x = threeKinds();
        int term = 1 + kind;
        String name = "kind " + kind + " from " + from + " by " + step + ", " + many;
        checks.due(name, x.range(0, term, from, step, many), many);
        checks.due(name + ": first", x.mark(0, term, 0), numberOf(kind, from));
        checks.due(name + ": last", x.mark(0, term, many - 1), numberOf(kind, from + step * (many - 1)));
        checks.due(name + ": behind the last", x.mark(0, term, many), VOID);
        checks.due(name + ": ahead of the first", x.mark(0, term, -1), VOID);
    }

    private static void notRanged(int kind, int from, int step, int many) {
        ThreadCharts x = threeKinds();
        String name = "kind " + kind + " from " + from + " by " + step + ", " + many;
        checks.due(name, x.range(0, 1 + kind, from, step, many), NONE);
        checks.due(name + ": no MARK", x.mark(0, 1 + kind, 0), VOID);
        checks.due(name + ": it can still be told", x.range(0, 1 + kind, 5, 2, 3), 3);
    }

    /** "values from .. by a step (1 .. 500), 2 to 40 of them" */
    private static void stepsAndMarks() {
        for (int kind = PLAIN; kind <= TURNED; kind++) {
            ranged(kind, 5, 1, 2);
            ranged(kind, 5, 1, 40);
            ranged(kind, 5, 2, 40);
            for (int step : new int[] {0, -1, 501, LEAST, GREATEST}) {
                notRanged(kind, 5, step, 2);
            }
            for (int many : new int[] {1, 0, -1, 41, LEAST, GREATEST}) {
                notRanged(kind, 5, 1, many);
            }
        }
        ranged(PLAIN, -1, 500, 3);
        ranged(TURNED, 499, 500, 2);
        notRanged(SQUARED, 0, 500, 2);
    }

    /** "plain v (-999 .. 999); squared v times v (0 .. 99); turned .. (1 .. 999)": the first and the last value. */
    private static void valuesOfF() {
        ranged(PLAIN, -999, 1, 40);
        ranged(PLAIN, 960, 1, 40);
        ranged(PLAIN, -999, 333, 7);
        ranged(SQUARED, 0, 1, 40);
        ranged(SQUARED, 60, 1, 40);
        ranged(SQUARED, 0, 99, 2);
        ranged(TURNED, 1, 1, 40);
        ranged(TURNED, 960, 1, 40);
        ranged(TURNED, 1, 499, 3);
        notRanged(PLAIN, -1000, 1, 40);
        notRanged(PLAIN, 961, 1, 40);
        notRanged(PLAIN, 999, 1, 2);
        notRanged(PLAIN, -998, 333, 7);
        notRanged(SQUARED, -1, 1, 2);
        notRanged(SQUARED, 61, 1, 40);
        notRanged(SQUARED, 0, 100, 2);
        notRanged(SQUARED, 99, 1, 2);
        notRanged(TURNED, 0, 1, 2);
        notRanged(TURNED, -1, 1, 2);
        notRanged(TURNED, 961, 1, 40);
        notRanged(TURNED, 2, 499, 3);
        for (int kind = PLAIN; kind <= TURNED; kind++) {
            for (int from : new int[] {LEAST, LEAST + 1, GREATEST, GREATEST - 39, GREATEST - 499}) {
                notRanged(kind, from, 1, 40);
                notRanged(kind, from, 500, 2);
                notRanged(kind, from, 500, 40);
            }
        }
    }

    /** "the whole number nearest to 10000 by v (..; of two the greater one)" */
    private static void turnedNumbersOfTwoTheGreater() {
        int[][] due = {{1, 10000}, {3, 3333}, {6, 1667}, {16, 625}, {31, 323}, {32, 313}, {33, 303}, {159, 63}, {160, 63},
            {161, 62}, {799, 13}, {800, 13}, {801, 12}, {952, 11}, {953, 10}, {998, 10}};
        for (int[] d : due) {
            ThreadCharts x = threeKinds();
            x.range(0, 3, d[0], 1, 2);
            checks.due("10000 by " + d[0], x.mark(0, 3, 0), d[1]);
        }
    }

    /** "The RANGE of a TERM (told once)"; "NONE if .. it was told" */
    private static void rangesAreToldOnce() {
        Refusals open = new Refusals(checks, Houses::open);
        open.none("TERM 0 of RULE 0 again", x -> x.range(0, 0, 0, 1, 40));
        open.none("TERM 1 of RULE 0 again", x -> x.range(0, 1, 5, 2, 30));
        open.none("TERM 0 of RULE 1 again", x -> x.range(1, 0, 4, 1, 9));
        ThreadCharts x = Houses.open();
        checks.due("TERM 1 of RULE 1 for the first time", x.range(1, 1, 0, 1, 2), 2);
        checks.due("and again", x.range(1, 1, 0, 1, 2), NONE);
    }

    /** "NONE if there is none such, .. or it can't be." */
    private static void rangesThatCannotBe() {
        Refusals open = new Refusals(checks, Houses::open);
        for (int n : new int[] {LEAST, -1, 2, 6, GREATEST}) {
            open.none("range of RULE " + n, x -> x.range(n, 1, 0, 1, 5));
        }
        for (int n : new int[] {LEAST, -1, 4, 5, GREATEST}) {
            open.none("range of TERM " + n, x -> x.range(1, n, 1, 1, 5));
        }
        for (int n : new int[] {LEAST, -1000, 996, GREATEST}) {
            open.none("range from " + n, x -> x.range(1, 1, n, 1, 5));
        }
        for (int n : new int[] {LEAST, -1, 0, 501, GREATEST}) {
            open.none("range by " + n, x -> x.range(1, 1, 0, n, 2));
        }
        for (int n : new int[] {LEAST, -1, 0, 1, 41, GREATEST}) {
            open.none("range of " + n, x -> x.range(1, 1, 0, 1, n));
        }
    }

    /** "F of a MARK of a TERM; VOID if there is none such." */
    private static void marksOfOthers() {
        Refusals open = new Refusals(checks, Houses::open);
        for (int n : new int[] {LEAST, -1, 2, 6, GREATEST}) {
            open.isVoid("mark of RULE " + n, x -> x.mark(n, 0, 0));
        }
        for (int n : new int[] {LEAST, -1, 3, 5, GREATEST}) {
            open.isVoid("mark of TERM " + n, x -> x.mark(0, n, 0));
        }
        for (int n : new int[] {LEAST, -1, 20, 40, GREATEST}) {
            open.isVoid("MARK " + n, x -> x.mark(0, 1, n));
        }
        for (int term = 1; term < 4; term++) {
            checks.due("no RANGE yet", Houses.open().mark(1, term, 0), VOID);
        }
        checks.due("the last of 20", Houses.open().mark(0, 1, 19), 19);
        checks.due("the last of 40", Houses.open().mark(0, 0, 39), 39);
        checks.due("behind 40", Houses.open().mark(0, 0, 40), VOID);
    }

    /** "of a RULE all of whose TERMS have RANGES": each TERM in its turn has none. */
    private static void chartsNeedAllRanges() {
        for (int missing = 0; missing < 5; missing++) {
            ThreadCharts x = Checks.withRule("c=a+b+d+e;");
            for (int t = 0; t < 5; t++) {
                if (t != missing) {
                    x.range(0, t, 0, 1, 10);
                }
            }
            checks.due("without TERM " + missing, x.chart(0, 1234, 100, 101, 101, 101), NONE);
            checks.due("no CHART", x.count(2), 0);
            x.range(0, missing, 0, 1, 10);
            checks.due("with TERM " + missing, x.chart(0, 1234, 100, 101, 101, 101), 0);
        }
    }

    private static int chartBy(int size, int order) {
        return Houses.ranged(size, 2).chart(0, order, 100, 101, size > 2 ? 101 : 0, size > 3 ? 101 : 0);
    }

    /** "an ORDER of TERMS 1 and on": each of them once, and no other digit. */
    private static void ordersOfAllTerms() {
        String[] terms = {"", "", "12", "123", "1234"};
        for (int size = 2; size <= 4; size++) {
            for (int order = -30; order < 4500; order++) {
                char[] digits = String.valueOf(order).toCharArray();
                Arrays.sort(digits);
                boolean all = new String(digits).equals(terms[size]);
                checks.due(size + " TERMS by " + order, chartBy(size, order), all ? 0 : NONE);
            }
            for (int order : new int[] {LEAST, -12, -21, -123, -1234, 11234, 12341, 43210, GREATEST}) {
                checks.due(size + " TERMS by " + order, chartBy(size, order), NONE);
            }
        }
    }

    /** "WIDE is 10 .. 1000 for all." */
    private static void wides() {
        int[][] due = {{LEAST, NONE}, {-10, NONE}, {0, NONE}, {9, NONE}, {10, 0}, {11, 0}, {999, 0}, {1000, 0}, {1001, NONE},
            {GREATEST, NONE}};
        for (int[] d : due) {
            ThreadCharts x = Houses.ranged(2, 5);
            checks.due("WIDE " + d[0], x.chart(0, 12, d[0], 101, 0, 0), d[1]);
            checks.due("MID of it", x.page(0, 0, 0), d[1] == 0 ? d[0] / 2 : NONE);
        }
    }

    private static boolean areModuli(int n) {
        return n >= 101 && n <= 5050 && n % 100 >= 1 && n % 100 <= 50;
    }

    /** "each PAGE has a MODULUS LEFT and RIGHT (1 .. 50 each)" */
    private static void moduli() {
        for (int n = -5200; n < 5300; n++) {
            checks.due("MODULI " + n, Houses.ranged(2, 2).chart(0, 12, 100, n, 0, 0), areModuli(n) ? 0 : NONE);
        }
        int[] edges = {LEAST, -101, 0, 1, 50, 100, 101, 150, 151, 200, 201, 5000, 5001, 5050, 5051, 5101, 10101, GREATEST};
        for (int n : edges) {
            int want = areModuli(n) ? 0 : NONE;
            checks.due("PAGE 0 of 3: " + n, Houses.ranged(4, 2).chart(0, 1234, 100, n, 101, 101), want);
            checks.due("PAGE 1 of 3: " + n, Houses.ranged(4, 2).chart(0, 1234, 100, 101, n, 101), want);
            checks.due("PAGE 2 of 3: " + n, Houses.ranged(4, 2).chart(0, 1234, 100, 101, 101, n), want);
            checks.due("PAGE 1 of 2: " + n, Houses.ranged(3, 2).chart(0, 123, 100, 101, n, 0), want);
        }
    }

    /** "(0 for PAGES that aren't there)": neither more nor fewer PAGES than the TERMS need. */
    private static void pagesThatAreNotThere() {
        for (int n : new int[] {LEAST, -101, -1, 1, 101, 5050, GREATEST}) {
            checks.due("PAGE 1 of 1: " + n, Houses.ranged(2, 2).chart(0, 12, 100, 101, n, 0), NONE);
            checks.due("PAGE 2 of 1: " + n, Houses.ranged(2, 2).chart(0, 12, 100, 101, 0, n), NONE);
            checks.due("PAGE 2 of 2: " + n, Houses.ranged(3, 2).chart(0, 123, 100, 101, 101, n), NONE);
        }
        checks.due("0 for PAGE 0", Houses.ranged(2, 2).chart(0, 12, 100, 0, 0, 0), NONE);
        checks.due("0 for PAGE 1 of 2", Houses.ranged(3, 2).chart(0, 123, 100, 101, 0, 0), NONE);
        checks.due("0 for PAGE 2 of 3", Houses.ranged(4, 2).chart(0, 1234, 100, 101, 101, 0), NONE);
    }

    /** "A CHART (6 at most)"; "NONE if .. 6 came." */
    private static void atMostSixCharts() {
        ThreadCharts x = Houses.ranged(2, 5);
        for (int i = 0; i < 6; i++) {
            checks.due("CHARTS", x.count(2), i);
            checks.due("no CHART " + i + " yet", x.page(i, 0, 0), NONE);
            checks.due("CHART " + i, x.chart(0, 12, 100 + 2 * i, 101, 0, 0), i);
            checks.due("its MID", x.page(i, 0, 0), 50 + i);
        }
        Refusals full = new Refusals(checks, Houses::brimful);
        full.none("a seventh CHART", y -> y.chart(0, 12, 100, 1010, 0, 0));
        full.none("a seventh CHART of the last RULE", y -> y.chart(5, 21, 77, 203, 0, 0));
    }

    /** "NONE if it can't be": and nothing has changed. */
    private static void chartsThatCannotBe() {
        Refusals open = new Refusals(checks, Houses::open);
        for (int n : new int[] {LEAST, -1, 2, GREATEST}) {
            open.none("CHART of RULE " + n, x -> x.chart(n, 12, 100, 1010, 0, 0));
        }
        open.none("CHART of a RULE without RANGES", x -> x.chart(1, 123, 100, 1010, 1010, 0));
        for (int n : new int[] {LEAST, -12, 0, 1, 2, 10, 11, 13, 22, 112, 123, GREATEST}) {
            open.none("ORDER " + n, x -> x.chart(0, n, 100, 1010, 0, 0));
        }
        for (int n : new int[] {LEAST, 9, 1001, GREATEST}) {
            open.none("WIDE " + n, x -> x.chart(0, 12, n, 1010, 0, 0));
        }
        for (int n : new int[] {LEAST, 0, 51, 100, 151, 5051, 5101, GREATEST}) {
            open.none("MODULI " + n, x -> x.chart(0, 12, 100, n, 0, 0));
        }
        open.none("a second PAGE", x -> x.chart(0, 12, 100, 1010, 101, 0));
        open.none("a third PAGE", x -> x.chart(0, 12, 100, 1010, 0, 101));
    }

    private static int midOf(int wide, int moduli) {
        ThreadCharts x = Houses.ranged(2, 2);
        x.chart(0, 12, wide, moduli, 0, 0);
        return x.page(0, 0, 0);
    }

    /** "MID, WIDE times LEFT by LEFT and RIGHT (cut)" */
    private static void midIsCut() {
        checks.due("10 by 51", midOf(10, 150), 0);
        checks.due("500 by 51", midOf(10, 5001), 9);
        checks.due("1000 by 51", midOf(1000, 150), 19);
        checks.due("50000 by 51", midOf(1000, 5001), 980);
        checks.due("550 by 100", midOf(11, 5050), 5);
        checks.due("30 by 3", midOf(30, 102), 10);
        checks.due("29 by 3", midOf(29, 102), 9);
    }

    /** "NEAREST .. of two the greater one (also below 0)": where a thread meets, and the SUM there. */
    private static void nearestBelowZero() {
        ThreadCharts x = Checks.withRule("c=a+b;");
        x.range(0, 0, -20, 1, 40);
        x.range(0, 1, 0, 1, 2);
        x.range(0, 2, -3, 1, 7);
        // MID is 5 of 10: half of b. MID is 5 of 11 for the second one: 20 b by 11, and half of that is the SUM.
        x.chart(0, 12, 10, 101, 0, 0);
        x.chart(0, 12, 11, 404, 0, 0);
        int[] halves = {-1, -1, 0, 0, 1, 1, 2};
        int[] meets = {-5, -4, -2, 0, 2, 4, 5};
        int[] sums = {-2, -2, -1, 0, 1, 2, 3};
        for (int mark = 0; mark < 7; mark++) {
            x.reading(0, mark);
            checks.due("half of " + (mark - 3), x.lead(0, 2), halves[mark]);
            x.reading(1, mark);
            checks.due("20 by 11 of " + (mark - 3), x.lead(0, 2), meets[mark]);
            checks.due("half of that", x.lead(0, 3), sums[mark]);
        }
    }

    /** "MARKS of the TERMS in the ORDER, two digits each, the first one's the highest": 3 MARKS of a, 2 of b. */
    private static void marksOfAReading() {
        ThreadCharts x = null;
        for (int marks = -300; marks < 10400; marks++) {
            if (marks % 300 == 0) {
                x = Checks.withRule("c=a+b;");
                x.range(0, 0, 0, 1, 40);
                x.range(0, 1, 10, 10, 3);
                x.range(0, 2, 0, 1, 2);
                x.chart(0, 12, 100, 202, 0, 0);
            }
            boolean there = marks >= 0 && marks / 100 < 3 && marks % 100 < 2;
            checks.due("reading " + marks, x.reading(0, marks), there);
            if (there) {
                checks.due("EXACT of " + marks, x.read(0, 2), 10 + marks / 100 * 10 + marks % 100);
            }
        }
    }

    /** "two digits each .. (of 2 to 4)": the last MARK of each of four, and one more of each in its turn. */
    private static void readingsOfFourTerms() {
        ThreadCharts x = Checks.withRule("c=a+b+d+e;");
        for (int t = 0; t < 5; t++) {
            x.range(0, t, 0, t == 0 ? 5 : 1, 40);
        }
        x.chart(0, 4321, 100, 1010, 1010, 1010);
        checks.due("all last MARKS", x.reading(0, 39393939), true);
        checks.due("EXACT", x.read(0, 2), 156);
        int[] wrong = {39393940, 39394039, 39403939, 40393939, 139393939, GREATEST, LEAST, -1, -39393939};
        for (int marks : wrong) {
            checks.due("reading " + marks, x.reading(0, marks), false);
            checks.due("it stays", x.read(0, 2), 156);
        }
        checks.due("all first MARKS", x.reading(0, 0), true);
        checks.due("EXACT", x.read(0, 2), 0);
        checks.due("the first TERM's last MARK alone", x.reading(0, 39000000), true);
        checks.due("EXACT", x.read(0, 2), 39);
    }

    /** "false if there is no such CHART, or MARK." */
    private static void readingsThatAreRefused() {
        Refusals open = new Refusals(checks, Houses::open);
        for (int n : new int[] {LEAST, -1, 2, 6, GREATEST}) {
            open.no("reading of CHART " + n, x -> x.reading(n, 0));
        }
        for (int n : new int[] {LEAST, -1, -101, 20, 99, 2000, 1920, 2019, 10000, 11919, GREATEST}) {
            open.no("MARKS " + n, x -> x.reading(0, n));
        }
        ThreadCharts x = Houses.open();
        checks.due("the last MARKS", x.reading(0, 1919), true);
        checks.due("its CHART", x.count(7), 0);
        checks.due("the last MARKS of CHART 1", x.reading(1, 1919), true);
        checks.due("its CHART", x.count(7), 1);
    }

    /** "VOID without a READING", also where a reading was refused. */
    private static void withoutAReading() {
        Refusals unread = new Refusals(checks, () -> Houses.charted(2, 10));
        for (int what = -1; what < 5; what++) {
            int asked = what;
            unread.isVoid("read " + what, x -> x.read(0, asked));
            unread.isVoid("lead " + what, x -> x.lead(0, asked));
        }
        unread.isVoid("span", x -> x.span(0, false));
        unread.isVoid("span", x -> x.span(50, true));
        unread.none("report", x -> x.report(0, 0));
        unread.none("CHART of the READING", x -> x.count(7));
        unread.no("a reading that can't be", x -> x.reading(0, 1000));
    }

    /** "AS KNOWN on a DAY (0 .. NOW)"; "VOID .. for others, or no such DAY." */
    private static void daysOfRead() {
        Refusals open = new Refusals(checks, Houses::open);
        for (int day : new int[] {LEAST, -1, 5, 300, 301, GREATEST}) {
            for (int what = 0; what < 3; what++) {
                int asked = what;
                open.isVoid("read " + what + " on DAY " + day, x -> x.read(day, asked));
            }
        }
        for (int what : new int[] {LEAST, -1, 3, GREATEST}) {
            open.isVoid("read " + what, x -> x.read(4, what));
        }
        ThreadCharts x = Houses.charted(2, 10);
        x.reading(0, 305);
        for (int now = 0; now < 4; now++) {
            for (int day = -1; day < 6; day++) {
                boolean known = day >= 0 && day <= now;
                checks.due("DAY " + day + " of " + now, x.read(day, 0), known ? 8 : VOID);
                checks.due("EXACT on DAY " + day + " of " + now, x.read(day, 2), known ? 8 : VOID);
            }
            x.go(1);
        }
    }

    /** "OFF (NONE), if f is below the first or above the last one"; "(cut; 0 at the last)" */
    private static void tenthsOff() {
        for (int many : new int[] {2, 3, 40}) {
            int last = -50 + 7 * (many - 1);
            ThreadCharts x = Checks.withRule("c=a+b;");
            x.range(0, 0, -50, 7, many);
            x.range(0, 1, -51, 1, 3);
            x.range(0, 2, 0, 7 * (many - 1), 2);
            x.chart(0, 12, 100, 202, 0, 0);
            int[] marks = {0, 100, 200, 1, 101, 201};
            int[] reads = {-51, -50, -49, last - 1, last, last + 1};
            int[] tenths = {NONE, 0, 1, 10 * (many - 2) + 8, 10 * (many - 1), NONE};
            for (int i = 0; i < marks.length; i++) {
                x.reading(0, marks[i]);
                checks.due("READ " + reads[i], x.read(0, 0), reads[i]);
                checks.due("TENTHS of " + reads[i] + ", " + many + " MARKS", x.read(0, 1), tenths[i]);
            }
        }
    }

    /** "(of like F one alone)": 40 MARKS of TERM 0 that all stand for 10. */
    private static void tenthsOfLikeOnes() {
        ThreadCharts x = Checks.withRule("/c=a+b;");
        x.range(0, 0, 960, 1, 40);
        x.range(0, 1, 9, 1, 3);
        x.range(0, 2, 0, 1, 2);
        x.chart(0, 12, 100, 202, 0, 0);
        int[] tenths = {NONE, 0, NONE};
        for (int i = 0; i < 3; i++) {
            x.reading(0, 100 * i);
            checks.due("TENTHS of " + (9 + i), x.read(0, 1), tenths[i]);
        }
    }

    /** "VOID for others, or if there is none such.": 1 to 3 PAGES, and the four numbers of each. */
    private static void pagesOfLead() {
        for (int size = 2; size <= 4; size++) {
            ThreadCharts x = Houses.charted(size, 10);
            x.reading(0, 0);
            for (int page = -2; page < 5; page++) {
                for (int what = -2; what < 6; what++) {
                    boolean there = page >= 0 && page < size - 1 && what >= 0 && what < 4;
                    checks.due(size + " TERMS, lead " + page + " " + what, x.lead(page, what), there ? 0 : VOID);
                }
            }
        }
        Refusals open = new Refusals(checks, Houses::open);
        for (int n : new int[] {LEAST, -1, 1, 3, GREATEST}) {
            open.isVoid("lead of PAGE " + n, x -> x.lead(n, 0));
        }
        for (int n : new int[] {LEAST, -1, 4, GREATEST}) {
            open.isVoid("lead " + n, x -> x.lead(0, n));
        }
    }

    /** "EYE e (0 .. 50)": of SPAN and of SHARPEST. */
    private static void eyes() {
        ThreadCharts x = Checks.plainHouse();
        x.reading(0, 305);
        // They meet at 40, and SUM is y by 5: from -10 to 90 with the greatest EYE.
        int[][] spans = {{0, 8, 8}, {1, 8, 8}, {2, 8, 8}, {3, 7, 9}, {49, -2, 18}, {50, -2, 18}};
        for (int[] s : spans) {
            checks.due("least with " + s[0], x.span(s[0], false), s[1]);
            checks.due("greatest with " + s[0], x.span(s[0], true), s[2]);
        }
        checks.due("WIDTH with 0", x.sharpest(0, 0, 1), 0);
        checks.due("WIDTH with 50", x.sharpest(0, 50, 1), 20);
        Refusals open = new Refusals(checks, Houses::open);
        for (int e : new int[] {LEAST, -1, 51, GREATEST}) {
            open.isVoid("least with " + e, y -> y.span(e, false));
            open.isVoid("greatest with " + e, y -> y.span(e, true));
            open.none("SHARPEST with " + e, y -> y.sharpest(0, e, 0));
            open.none("its WIDTH with " + e, y -> y.sharpest(0, e, 1));
        }
    }

    /** "NONE for others, or if there is none such."; and TALL of the greatest and the least that F and MODULI make. */
    private static void pagesAndTheirTall() {
        for (int size = 2; size <= 4; size++) {
            ThreadCharts x = Houses.charted(size, 11);
            for (int page = -2; page < 5; page++) {
                boolean there = page >= 0 && page < size - 1;
                checks.due(size + " TERMS, MID " + page, x.page(0, page, 0), there ? 50 : NONE);
                checks.due(size + " TERMS, TALL " + page, x.page(0, page, 1), there ? 100 * (page + 1) : NONE);
            }
        }
        ThreadCharts x = Checks.withRule("c=a*a-b*b;");
        x.range(0, 0, 0, 1, 2);
        x.range(0, 1, 0, 33, 4);
        x.range(0, 2, 0, 99, 2);
        x.chart(0, 12, 100, 5050, 0, 0);
        checks.due("from -490050 to 490050", x.page(0, 0, 1), 980100);
        checks.due("all points below 0", tallOf("c=-a-b;"), 12);
        checks.due("all points above 0", tallOf("c=a+b;"), 12);
        Refusals open = new Refusals(checks, Houses::open);
        for (int n : new int[] {LEAST, -1, 2, 6, GREATEST}) {
            open.none("page of CHART " + n, y -> y.page(n, 0, 0));
            open.none("page " + n, y -> y.page(0, n, 0));
            open.none("page what " + n, y -> y.page(0, 0, n));
        }
        open.none("PAGE 1 of 1", y -> y.page(0, 1, 0));
    }

    /** Left 10 .. 12, right 20 .. 22, middle 15 .. 17: no point is at 0. */
    private static int tallOf(String text) {
        ThreadCharts x = Checks.withRule(text);
        x.range(0, 0, 0, 1, 2);
        x.range(0, 1, 10, 1, 3);
        x.range(0, 2, 20, 1, 3);
        x.chart(0, 12, 100, 101, 0, 0);
        return x.page(0, 0, 1);
    }

    /** "NONE for others, or if there is none such."; "of like ones the first ORDER" */
    private static void sharpestOfOthers() {
        int[] first = {0, 0, 12, 123, 1234};
        for (int size = 2; size <= 4; size++) {
            // With EYE 0 all WIDTHS are 0, whatever the ORDER.
            checks.due("all ORDERS alike", Houses.charted(size, 10).sharpest(0, 0, 0), first[size]);
            checks.due("their WIDTH", Houses.charted(size, 10).sharpest(0, 0, 1), 0);
        }
        Refusals open = new Refusals(checks, Houses::open);
        for (int n : new int[] {LEAST, -1, 2, 6, GREATEST}) {
            open.none("SHARPEST of CHART " + n, x -> x.sharpest(n, 5, 0));
            open.none("SHARPEST what " + n, x -> x.sharpest(0, 5, n));
        }
    }

    private static int sharpestWidth(int wide, int fromA, int stepA, int fromB, int stepB) {
        ThreadCharts x = Checks.withRule("c=a+b;");
        x.range(0, 0, 0, 1, 40);
        x.range(0, 1, fromA, stepA, 3);
        x.range(0, 2, fromB, stepB, 3);
        x.chart(0, 12, wide, 103, 0, 0);
        return x.sharpest(0, 2, 1);
    }

    /**
     * "the greatest WIDTH of all READINGS of first and last MARKS". MID is 2 and SUM is 4 y by 3: with EYE 2 the WIDTH
     * is 6 where y is 0, 3, 6, .. and 5 elsewhere.
     */
    private static void widthOfFirstAndLastMarks() {
        // y is 0 with both first MARKS, and 4, 5, 8 with others.
        checks.due("both first MARKS alone are that wide", sharpestWidth(10, 0, 3, 0, 3), 6);
        // y is 9 with both last MARKS.
        checks.due("both last MARKS alone are that wide", sharpestWidth(11, 1, 3, 2, 2), 6);
        // 1 and 9 meet at 3, but 9 is of a MARK between the first and the last one.
        checks.due("a MARK between is not looked at", sharpestWidth(10, 1, 2, 1, 2), 5);
    }

    /** "if there is none such": the first number behind the last RULE, CHART and REPORT of a full house. */
    private static void numbersBehindTheLast() {
        Refusals full = new Refusals(checks, Houses::brimful);
        full.isVoid("told of RULE 6", x -> x.told(6, 0));
        full.none("range of RULE 6", x -> x.range(6, 0, 0, 1, 2));
        full.isVoid("mark of RULE 6", x -> x.mark(6, 0, 0));
        full.none("chart of RULE 6", x -> x.chart(6, 12, 100, 101, 0, 0));
        full.no("reading of CHART 6", x -> x.reading(6, 0));
        full.none("page of CHART 6", x -> x.page(6, 0, 0));
        full.none("sharpest of CHART 6", x -> x.sharpest(6, 0, 0));
        full.none("finest of CHART 6", x -> x.finest(6, 400, 0));
        full.no("paper of CHART 6", x -> x.paper(6, 0, 0, 0));
        full.isVoid("swelled of CHART 6", x -> x.swelled(6, 0, true));
        full.none("move of CHART 6", x -> x.move(6, 1, 0, 0));
        full.none("suspects of CHART 6", x -> x.suspects(6, 5, 0));
        full.isVoid("due of REPORT 60", x -> x.due(60, 5, 0));
        full.isVoid("read on DAY 301", x -> x.read(301, 0));
        ThreadCharts x = Houses.brimful();
        checks.due("RULE 5", x.told(5, 1), 5);
        checks.due("CHART 5", x.page(5, 0, 0), 52);
        checks.due("REPORT 59", x.due(59, 5, 0) != VOID, true);
        checks.due("DAY 300", x.read(300, 0) != VOID, true);
    }
}
