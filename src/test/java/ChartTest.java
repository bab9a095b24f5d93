/** Promises 9 to 15: chart, reading, read, lead, span, page, sharpest. */
public final class ChartTest {
    private static final int NONE = Checks.NONE;
    private static final int VOID = Checks.VOID;
    private static final Checks checks = new Checks();

    public static void main(String[] args) {
        charts();
        chartsOfFourTerms();
        chartNeedsAllRanges();
        sixCharts();
        readings();
        readAndLead();
        halvesGoUp();
        tenths();
        tenthsOfTurned();
        spans();
        pages();
        tallByEachSort();
        tallOfLaterPages();
        sharpest();
        sharpestIsFirstOfLikeOnes();
        sharpestOfManyOrders();
        checks.close();
    }

    /** c = a - b + d + 3, and CHART 0: first b, then a, then d; MID is 40 on PAGE 0, 20 on PAGE 1. */
    private static ThreadCharts threeTerms() {
        ThreadCharts x = Checks.withRule("c = a - b + d + 3;");
        x.range(0, 0, -50, 5, 40);
        x.range(0, 1, 0, 1, 10);
        x.range(0, 2, 0, 1, 10);
        x.range(0, 3, 2, 2, 5);
        checks.due("chart", x.chart(0, 213, 100, 203, 104, 0), 0);
        return x;
    }

    private static void charts() {
        ThreadCharts x = threeTerms();
        checks.due("no rule 1", x.chart(1, 213, 100, 203, 104, 0), NONE);
        checks.due("no rule -1", x.chart(-1, 213, 100, 203, 104, 0), NONE);
        int[] orders = {0, 1, 12, 21, 23, 112, 122, 124, 120, 12, 1213, 2130, 1234, -123, -213, 320, 456, VOID, 2147483647};
        for (int order : orders) {
            checks.due("order " + order, x.chart(0, order, 100, 203, 104, 0), NONE);
        }
        int[] wides = {9, 1001, 0, -10, VOID, 2147483647};
        for (int wide : wides) {
            checks.due("wide " + wide, x.chart(0, 213, wide, 203, 104, 0), NONE);
        }
        int[] moduli = {0, 1, 99, 100, 151, 199, 200, 5051, 5100, 5101, 10101, -101, -203, VOID, 2147483647};
        for (int m : moduli) {
            checks.due("first " + m, x.chart(0, 213, 100, m, 104, 0), NONE);
            checks.due("second " + m, x.chart(0, 213, 100, 104, m, 0), NONE);
        }
        checks.due("a third page", x.chart(0, 213, 100, 203, 104, 101), NONE);
        checks.due("a third page", x.chart(0, 213, 100, 203, 104, -1), NONE);
        checks.due("one chart", x.count(2), 1);
        checks.due("edges", x.chart(0, 123, 10, 101, 5050, 0), 1);
        checks.due("edges", x.chart(0, 321, 1000, 150, 5001, 0), 2);
        checks.due("MID of the narrow", x.page(1, 0, 0), 5);
        checks.due("MID is cut", x.page(2, 0, 0), 19);
        checks.due("MID is cut", x.page(2, 1, 0), 980);
        checks.due("49 and 50", x.chart(0, 123, 990, 4950, 101, 0), 3);
        checks.due("MID of 49 and 50", x.page(3, 0, 0), 490);
    }

    private static void chartsOfFourTerms() {
        ThreadCharts x = Checks.withRule("c = a + b + d + e;");
        for (int t = 0; t < 5; t++) {
            x.range(0, t, 0, 1, 10);
        }
        checks.due("two pages", x.chart(0, 1234, 100, 101, 101, 0), NONE);
        checks.due("three terms of four", x.chart(0, 123, 100, 101, 101, 0), NONE);
        checks.due("two terms of four", x.chart(0, 12, 100, 101, 0, 0), NONE);
        checks.due("three pages", x.chart(0, 4231, 100, 101, 101, 101), 0);
        checks.due("with TERM 0", x.chart(0, 4230, 100, 101, 101, 101), NONE);
        checks.due("marks of four", x.reading(0, 9090909), true);
        checks.due("marks of four", x.reading(0, 9090910), false);
        checks.due("marks of four", x.reading(0, 109090909), false);
    }

    private static void chartNeedsAllRanges() {
        ThreadCharts x = Checks.withRule("c = a + b;");
        x.range(0, 1, 0, 1, 10);
        x.range(0, 2, 0, 1, 10);
        checks.due("without TERM 0's", x.chart(0, 12, 100, 101, 0, 0), NONE);
        x.range(0, 0, 0, 1, 10);
        checks.due("with all", x.chart(0, 12, 100, 101, 0, 0), 0);
        checks.due("a second page", x.chart(0, 12, 100, 101, 101, 0), NONE);
        checks.due("a third page", x.chart(0, 12, 100, 101, 0, 101), NONE);
    }

    private static void sixCharts() {
        ThreadCharts x = Checks.plainHouse();
        for (int i = 1; i < 6; i++) {
            checks.due("chart " + i, x.chart(0, 21, 100 + i, 1010, 0, 0), i);
        }
        checks.due("a seventh", x.chart(0, 21, 100, 1010, 0, 0), NONE);
        checks.due("six charts", x.count(2), 6);
        checks.due("the last one's MID", x.page(5, 0, 0), 52);
        checks.due("no chart 6", x.page(6, 0, 0), NONE);
    }

    private static void readings() {
        ThreadCharts x = threeTerms();
        checks.due("no reading yet", x.count(7), NONE);
        checks.due("wrong one at first", x.reading(0, 30505), false);
        checks.due("still none", x.count(7), NONE);
        checks.due("still none", x.read(0, 0), VOID);
        checks.due("reading", x.reading(0, 30501), true);
        checks.due("its chart", x.count(7), 0);
        checks.due("all last marks", x.reading(0, 90904), true);
        checks.due("first mark too great", x.reading(0, 100904), false);
        checks.due("second mark too great", x.reading(0, 91004), false);
        checks.due("third mark too great", x.reading(0, 90905), false);
        checks.due("a mark too many", x.reading(0, 1090904), false);
        checks.due("below 0", x.reading(0, -1), false);
        checks.due("least", x.reading(0, VOID), false);
        checks.due("greatest", x.reading(0, 2147483647), false);
        checks.due("no chart 1", x.reading(1, 0), false);
        checks.due("no chart -1", x.reading(-1, 0), false);
        // 9 - 9 + 10 + 3: the reading of all last marks is still the one.
        checks.due("what was refused changed nothing", x.read(0, 2), 13);
        checks.due("all first marks", x.reading(0, 0), true);
        checks.due("another reading", x.read(0, 2), 5);
    }

    private static void readAndLead() {
        ThreadCharts x = threeTerms();
        checks.due("lead without a reading", x.lead(0, 0), VOID);
        checks.due("read without a reading", x.read(0, 2), VOID);
        // b is 3, a is 5, d is 4. PAGE 0: from -6 to 15, 21 * 40 by 100 is 8: at 2, which is 2 * 5 by 6, so 2.
        // PAGE 1: from 2 to 16, 14 * 20 by 100 is 3: at 5, which is 5 * 5 by 4, so 6.
        x.reading(0, 30501);
        int[][] pages = {{-6, 15, 2, 2}, {2, 16, 5, 6}};
        for (int p = 0; p < 2; p++) {
            for (int what = 0; what < 4; what++) {
                checks.due("lead(" + p + ", " + what + ")", x.lead(p, what), pages[p][what]);
            }
            checks.due("lead what 4", x.lead(p, 4), VOID);
            checks.due("lead what -1", x.lead(p, -1), VOID);
        }
        checks.due("no page 2", x.lead(2, 3), VOID);
        checks.due("no page -1", x.lead(-1, 3), VOID);
        checks.due("READ", x.read(0, 0), 9);
        checks.due("TENTHS", x.read(0, 1), 118);
        checks.due("EXACT", x.read(0, 2), 9);
        checks.due("read what 3", x.read(0, 3), VOID);
        checks.due("read what -1", x.read(0, -1), VOID);
        for (int what = 0; what < 3; what++) {
            checks.due("no day 1 yet", x.read(1, what), VOID);
            checks.due("no day -1", x.read(-1, what), VOID);
        }
        // b is 9, a is 0, d is 2. PAGE 0: from -18 to 0, 18 * 40 by 100 is 7: at -11, -55 by 6 is -9.
        // PAGE 1: from -9 to 8, 17 * 20 by 100 is 3: at -6, -30 by 4 is -7 (of -8 and -7).
        x.reading(0, 90000);
        checks.due("below 0 on PAGE 0", x.lead(0, 3), -9);
        checks.due("below 0 on PAGE 1", x.lead(1, 3), -7);
        checks.due("READ", x.read(0, 0), -4);
        checks.due("EXACT", x.read(0, 2), -4);
        checks.due("TENTHS of -4", x.read(0, 1), 92);
    }

    private static void halvesGoUp() {
        ThreadCharts x = Checks.withRule("c = a + b;");
        x.range(0, 0, -20, 1, 40);
        x.range(0, 1, -2, 1, 5);
        x.range(0, 2, -2, 1, 5);
        x.chart(0, 12, 10, 101, 0, 0);
        // A thread from 0 to -1 meets at -1 and a half: 0 is the greater one; from 0 to 1 at 1.
        x.reading(0, 201);
        checks.due("half below 0", x.lead(0, 2), 0);
        x.reading(0, 203);
        checks.due("half above 0", x.lead(0, 2), 1);
        checks.due("twice that", x.read(0, 0), 2);
        x.reading(0, 100);
        checks.due("from -1 to -2", x.lead(0, 2), -1);
    }

    private static void tenths() {
        ThreadCharts x = Checks.withRule("c = a + b;");
        x.range(0, 0, 10, 7, 3);
        x.range(0, 1, 0, 1, 40);
        x.range(0, 2, 0, 1, 2);
        x.chart(0, 12, 100, 202, 0, 0);
        // MARKS at 10, 17, 24; f is what is read of a alone.
        int[][] due = {{9, NONE}, {10, 0}, {11, 1}, {12, 2}, {13, 4}, {14, 5}, {15, 7}, {16, 8}, {17, 10}, {18, 11},
            {23, 18}, {24, 20}, {25, NONE}, {39, NONE}, {0, NONE}};
        for (int[] d : due) {
            x.reading(0, d[0] * 100);
            checks.due("READ " + d[0], x.read(0, 0), d[0]);
            checks.due("TENTHS of " + d[0], x.read(0, 1), d[1]);
        }
    }

    private static void tenthsOfTurned() {
        ThreadCharts x = Checks.withRule("/c = a + b;");
        // F of 996 .. 999 is 10 alone: one MARK for TENTHS.
        x.range(0, 0, 996, 1, 4);
        x.range(0, 1, 0, 1, 40);
        x.range(0, 2, 0, 1, 2);
        x.chart(0, 12, 100, 202, 0, 0);
        x.reading(0, 1000);
        checks.due("the one", x.read(0, 1), 0);
        x.reading(0, 900);
        checks.due("below the one", x.read(0, 1), NONE);
        x.reading(0, 1100);
        checks.due("above the one", x.read(0, 1), NONE);
        // F of 400, 500, .. 800 is 25, 20, 17, 14, 13: rising they are 13, 14, 17, 20, 25.
        Checks.tell(x, "/c = a + b;");
        x.rule();
        x.range(1, 0, 400, 100, 5);
        x.range(1, 1, 0, 1, 40);
        x.range(1, 2, 0, 1, 2);
        x.chart(1, 12, 100, 202, 0, 0);
        int[][] due = {{12, NONE}, {13, 0}, {14, 10}, {15, 13}, {16, 16}, {17, 20}, {20, 30}, {24, 38}, {25, 40}, {26, NONE}};
        for (int[] d : due) {
            x.reading(1, d[0] * 100);
            checks.due("turned TENTHS of " + d[0], x.read(0, 1), d[1]);
        }
    }

    private static void spans() {
        ThreadCharts x = threeTerms();
        checks.due("span without a reading", x.span(0, false), VOID);
        x.reading(0, 30501);
        checks.due("eye 0", x.span(0, false), 6);
        checks.due("eye 0", x.span(0, true), 6);
        // PAGE 0: at 1 or 3, so 1 or 3 (of 2 and 3). PAGE 1: from 1 at 4, less 1, so 4; from 3 at 6, and 1, so 9.
        checks.due("eye 1", x.span(1, false), 4);
        checks.due("eye 1", x.span(1, true), 9);
        // PAGE 0: at -48 or 52: -40, 43. PAGE 1: from -40 at -29, less 50: -99; from 43 at 38, and 50: 110.
        checks.due("eye 50", x.span(50, false), -99);
        checks.due("eye 50", x.span(50, true), 110);
        checks.due("eye 51", x.span(51, true), VOID);
        checks.due("eye -1", x.span(-1, true), VOID);
        checks.due("eye least", x.span(VOID, false), VOID);
        // Of flat paper and by SIGN times F, whatever was told.
        x.move(0, 2, 3, 500);
        x.paper(0, 0, 50, -50);
        checks.due("moved and swelled", x.read(0, 0) == 9, false);
        checks.due("eye 1 after that", x.span(1, false), 4);
        checks.due("eye 1 after that", x.span(1, true), 9);
    }

    private static void pages() {
        ThreadCharts x = threeTerms();
        checks.due("MID 0", x.page(0, 0, 0), 40);
        checks.due("MID 1", x.page(0, 1, 0), 20);
        // Left -18 .. 0, right 0 .. 27, middle -11 .. 11.
        checks.due("TALL 0", x.page(0, 0, 1), 45);
        // Left -9 .. 9, right 8 .. 40, middle -6 .. 15.
        checks.due("TALL 1", x.page(0, 1, 1), 49);
        checks.due("no page 2", x.page(0, 2, 0), NONE);
        checks.due("no page 2", x.page(0, 2, 1), NONE);
        checks.due("no page -1", x.page(0, -1, 0), NONE);
        checks.due("what 2", x.page(0, 0, 2), NONE);
        checks.due("what -1", x.page(0, 0, -1), NONE);
        checks.due("no chart 1", x.page(1, 0, 0), NONE);
        checks.due("no chart -1", x.page(-1, 0, 1), NONE);
        x.move(0, 1, 0, 99999);
        x.paper(0, 0, 50, 50);
        checks.due("TALL of flat paper, unmoved", x.page(0, 0, 1), 45);
    }

    /** Left and right points are the outermost ones (middle ones never are: they are means of these). */
    private static void tallByEachSort() {
        ThreadCharts x = Checks.withRule("c = -a*a + /b + 5;");
        x.range(0, 0, 0, 1, 2);
        x.range(0, 1, 3, 2, 4);
        x.range(0, 2, 100, 100, 3);
        // -81 .. -9 on the first line, 33 .. 100 on the second: sums -48 .. 91.
        x.chart(0, 12, 100, 1001, 0, 0);
        checks.due("left least, right greatest", x.page(0, 0, 1), 810 + 100);
        x.chart(0, 21, 100, 5001, 0, 0);
        checks.due("left greatest, right least", x.page(1, 0, 1), 5000 + 81);
        Checks.tell(x, "c = a + b;");
        x.rule();
        x.range(1, 0, 0, 1, 2);
        x.range(1, 1, 10, 10, 2);
        x.range(1, 2, 50, 10, 2);
        // Left 30 .. 60, right 50 .. 60, middle 60 * 3 by 4 is 45 and 80 * 3 by 4 is 60.
        x.chart(1, 12, 100, 301, 0, 0);
        checks.due("left least and greatest", x.page(2, 0, 1), 30);
        // Left 20 .. 40, right 150 .. 180, middle 72 .. 96.
        x.chart(1, 12, 100, 203, 0, 0);
        checks.due("left least, right greatest", x.page(3, 0, 1), 160);
        Checks.tell(x, "c = a + b;");
        x.rule();
        x.range(2, 0, 0, 1, 2);
        x.range(2, 1, -20, 10, 5);
        x.range(2, 2, -30, 30, 3);
        // Left -60 .. 60, right -60 .. 60, middle -50 * 6 by 5: the same.
        x.chart(2, 12, 100, 302, 0, 0);
        checks.due("all alike", x.page(4, 0, 1), 120);
        // Left -60 .. 60, right -90 .. 90, middle -50 * 9 by 6: -75 .. 75.
        x.chart(2, 12, 100, 303, 0, 0);
        checks.due("right alone", x.page(5, 0, 1), 180);
    }

    private static void tallOfLaterPages() {
        ThreadCharts x = Checks.withRule("c = a + b + d;");
        x.range(0, 0, 0, 1, 2);
        x.range(0, 1, 0, 1, 2);
        x.range(0, 2, 0, 1, 3);
        x.range(0, 3, 0, 1, 4);
        // PAGE 0: 0 .. 5, 0 .. 8, 3 * 20 by 9 is 7. PAGE 1: 0 .. 3, 0 .. 3, 6 by 2 is 3.
        x.chart(0, 123, 100, 504, 101, 0);
        checks.due("PAGE 0 of a and b", x.page(0, 0, 1), 8);
        checks.due("PAGE 1 of them and d", x.page(0, 1, 1), 3);
        // PAGE 0: 0 .. 2, 0 .. 3. PAGE 1: the left line is for 0 .. 5, so 0 .. 15; right 0 .. 5.
        x.chart(0, 231, 100, 101, 305, 0);
        checks.due("PAGE 0 of b and d", x.page(1, 0, 1), 3);
        checks.due("PAGE 1 of them and a", x.page(1, 1, 1), 15);
        Checks.tell(x, "c = a - b - d;");
        x.rule();
        x.range(1, 0, 0, 1, 2);
        x.range(1, 1, 1, 1, 2);
        x.range(1, 2, 0, 1, 2);
        x.range(1, 3, 3, 2, 2);
        // PAGE 0: left 2 .. 4, right -2 .. 0. PAGE 1: left of 0 .. 2, so 0 .. 2; right -5 * 49 .. -3 * 49.
        x.chart(1, 123, 100, 202, 149, 0);
        checks.due("left above, right below", x.page(2, 0, 1), 6);
        checks.due("right far below", x.page(2, 1, 1), 247);
    }

    private static void sharpest() {
        ThreadCharts x = Checks.withRule("c = a + b;");
        x.range(0, 0, 0, 1, 40);
        x.range(0, 1, 0, 2, 3);
        x.range(0, 2, 4, 4, 2);
        // MID is 2, SUM is 4 y by 3: with eye 1 the WIDTH is 2 if y is 0, 3, 6, .., or else 3.
        // With b first, y is 3, 6, 6, 9 for first and last MARKS; with a first, 0 and 4 meet at 2.
        x.chart(0, 12, 10, 103, 0, 0);
        checks.due("sharpest", x.sharpest(0, 1, 0), 21);
        checks.due("its width", x.sharpest(0, 1, 1), 2);
        checks.due("eye 0", x.sharpest(0, 0, 0), 12);
        checks.due("eye 0", x.sharpest(0, 0, 1), 0);
        checks.due("eye 51", x.sharpest(0, 51, 0), NONE);
        checks.due("eye -1", x.sharpest(0, -1, 1), NONE);
        checks.due("what 2", x.sharpest(0, 1, 2), NONE);
        checks.due("what -1", x.sharpest(0, 1, -1), NONE);
        checks.due("no chart 1", x.sharpest(1, 1, 0), NONE);
        checks.due("no chart -1", x.sharpest(-1, 1, 0), NONE);
        x.paper(0, 0, 50, 50);
        x.move(0, 2, 0, 99999);
        checks.due("of flat paper, unmoved", x.sharpest(0, 1, 0), 21);
        checks.due("of flat paper, unmoved", x.sharpest(0, 1, 1), 2);
        checks.due("no reading came of it", x.count(7), NONE);
    }

    private static void sharpestIsFirstOfLikeOnes() {
        ThreadCharts x = Checks.withRule("c = a + b + d + e;");
        for (int t = 0; t < 5; t++) {
            x.range(0, t, 0, 2, 10);
        }
        // All TERMS alike: whatever the ORDER, the first one is the answer.
        x.chart(0, 4321, 100, 202, 202, 202);
        checks.due("first of like ones", x.sharpest(0, 3, 0), 1234);
        // SUM is y, and MID the half of WIDE: twice the SUM ahead counts half, and the eye 3 more on each PAGE.
        checks.due("its width", x.sharpest(0, 3, 1), 18);
        checks.due("the chart's ORDER stays", x.reading(0, 9090909), true);
        checks.due("its pages stay", x.page(0, 0, 0), 50);
    }

    /** Answers that the Model gave: ORDER, WIDTH, EYE, WIDE, MODULI, and from, step, many of each TERM. */
    private static void sharpestOfManyOrders() {
        int[][] due = {
            {312, 12, 3, 31, 204, 301, 0, 5, 5, 4, 2, 1, 4, 4, 6, 4},
            {132, 4, 1, 23, 502, 103, 0, 1, 3, 3, 1, 2, 4, 4, 4, 3},
            {213, 5, 2, 28, 504, 204, 0, 1, 6, 4, 4, 6, 3, 5, 4, 2},
            {231, 5, 2, 20, 303, 303, 0, 3, 6, 3, 0, 3, 4, 0, 6, 4},
            {321, 8, 2, 15, 103, 403, 0, 0, 4, 4, 4, 5, 2, 5, 4, 4},
            {1423, 7, 1, 23, 103, 105, 402, 1, 3, 3, 5, 6, 2, 5, 3, 2, 5, 3, 4},
            {2413, 22, 3, 30, 503, 101, 401, 3, 6, 3, 3, 3, 3, 4, 5, 3, 0, 2, 2},
            {3142, 15, 2, 17, 302, 102, 201, 0, 4, 2, 4, 3, 2, 1, 3, 3, 1, 4, 3},
            {4312, 6, 1, 11, 402, 103, 305, 2, 3, 4, 2, 6, 2, 2, 5, 3, 4, 2, 4},
            {4321, 16, 3, 17, 404, 205, 401, 1, 3, 4, 4, 3, 2, 5, 4, 4, 4, 6, 3}};
        for (int[] d : due) {
            int terms = (d.length - 7) / 3;
            ThreadCharts x = Checks.withRule(terms == 3 ? "c = a + b - d;" : "c = a + b - d + e;");
            x.range(0, 0, 0, 1, 40);
            for (int t = 1; t <= terms; t++) {
                x.range(0, t, d[4 + 3 * t], d[5 + 3 * t], d[6 + 3 * t]);
            }
            x.chart(0, terms == 3 ? 123 : 1234, d[3], d[4], d[5], d[6]);
            checks.due("sharpest of " + d[0], x.sharpest(0, d[2], 0), d[0]);
            checks.due("width of " + d[0], x.sharpest(0, d[2], 1), d[1]);
        }
    }
}
