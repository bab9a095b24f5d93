/** Promises 16 to 22 at their edges: each method holds the document to one sentence that names a boundary case. */
public final class PaperEdgesTest {
    private static final int NONE = Checks.NONE;
    private static final int VOID = Checks.VOID;
    private static final int LEAST = Integer.MIN_VALUE;
    private static final int GREATEST = Integer.MAX_VALUE;
    private static final Checks checks = new Checks();

    public static void main(String[] args) {
        listedNumbers();
        atMostFourListed();
        clearTellsHowMany();
        finestOfAnEmptyList();
        lowestHigh();
        greatestHigh();
        finestOfOthers();
        paperIsFlatAtFirst();
        edgesOfPaper();
        paperThatCannotBe();
        upToTheSeamAndAbove();
        cutTowardZero();
        pointsThatCannotBeAsked();
        placesReadAtTheEdges();
        daysToGo();
        threehundredAtMost();
        goIsRefused();
        edgesOfMovedNumbers();
        greatNumbersDoNotWrap();
        fortyMovedOfAll();
        movesThatCannotBe();
        knownFromThatDayOn();
        checks.close();
    }

    /** "NONE if it isn't 1 .. 50, it is there" */
    private static void listedNumbers() {
        for (int n = -3; n <= 60; n++) {
            ThreadCharts x = new ThreadCharts();
            boolean listed = n >= 1 && n <= 50;
            checks.due("list(" + n + ")", x.list(n), listed ? 1 : NONE);
            checks.due("list(" + n + ") again", x.list(n), NONE);
            checks.due("numbers of the LIST", x.count(5), listed ? 1 : 0);
        }
        Refusals open = new Refusals(checks, Houses::open);
        for (int n : new int[] {LEAST, -1, 0, 10, 20, 51, GREATEST}) {
            open.none("list(" + n + ")", x -> x.list(n));
        }
    }

    /** "NONE if .. 4 are." */
    private static void atMostFourListed() {
        ThreadCharts x = new ThreadCharts();
        for (int n = 1; n <= 4; n++) {
            checks.due("list", x.list(n), n);
        }
        for (int n = 1; n <= 50; n++) {
            checks.due("a fifth", x.list(n), NONE);
        }
        checks.due("numbers of the LIST", x.count(5), 4);
        Refusals full = new Refusals(checks, Houses::brimful);
        full.none("list(50) as a fifth", y -> y.list(50));
        full.none("list(10), which is there", y -> y.list(10));
        full.none("list(0)", y -> y.list(0));
    }

    /** "The LIST becomes empty: how many there were." */
    private static void clearTellsHowMany() {
        for (int many = 0; many <= 5; many++) {
            ThreadCharts x = new ThreadCharts();
            for (int n = 1; n <= many; n++) {
                x.list(n);
            }
            checks.due("clear", x.clear(), Math.min(many, 4));
            checks.due("empty", x.count(5), 0);
            checks.due("clear of an empty one", x.clear(), 0);
            checks.due("one that was there", x.list(1), 1);
        }
    }

    /** "each LEFT and RIGHT one of a LIST (1 to 4 told numbers)" */
    private static void finestOfAnEmptyList() {
        ThreadCharts x = Checks.plainHouse();
        checks.due("an empty LIST", x.finest(0, 30000, 0), NONE);
        for (int n = 1; n <= 4; n++) {
            x.list(n);
            checks.due("LIST of " + n, x.finest(0, 30000, 0), 101 * n);
        }
        x.list(5);
        checks.due("a fifth is none", x.finest(0, 30000, 0), 404);
        x.clear();
        checks.due("empty again", x.finest(0, 30000, 0), NONE);
    }

    /** "HIGH (10 .. 30000)"; "if no PAGE is TALLER": as TALL as HIGH is fine. */
    private static void lowestHigh() {
        for (int tall = 1; tall <= 12; tall++) {
            ThreadCharts x = Houses.charted(2, tall + 1);
            x.list(1);
            for (int high = 8; high <= 13; high++) {
                checks.due(tall + " TALL, HIGH " + high, x.finest(0, high, 0), high >= 10 && tall <= high ? 101 : NONE);
            }
        }
    }

    /** The last PAGE is 29403 and what e is at most TALL. */
    private static ThreadCharts tallHouse(int e) {
        ThreadCharts x = Checks.withRule("c=a*a+b*b+d*d-e;");
        x.range(0, 0, 0, 1, 2);
        for (int t = 1; t <= 3; t++) {
            x.range(0, t, 0, 99, 2);
        }
        x.range(0, 4, e - 500, 500, 2);
        x.chart(0, 1234, 100, 101, 101, 101);
        x.list(1);
        return x;
    }

    private static void greatestHigh() {
        ThreadCharts x = tallHouse(597);
        checks.due("TALL", x.page(0, 2, 1), 30000);
        checks.due("HIGH 29999", x.finest(0, 29999, 0), NONE);
        for (int page = 0; page < 3; page++) {
            checks.due("HIGH 30000", x.finest(0, 30000, page), 101);
            checks.due("HIGH 30001 can't be", x.finest(0, 30001, page), NONE);
            checks.due("HIGH greatest can't be", x.finest(0, GREATEST, page), NONE);
        }
        ThreadCharts y = tallHouse(598);
        checks.due("TALL", y.page(0, 2, 1), 30001);
        for (int page = 0; page < 3; page++) {
            checks.due("one PAGE of three is TALLER", y.finest(0, 30000, page), NONE);
        }
    }

    /** "NONE if none FITS, there is none such, or HIGH can't be." */
    private static void finestOfOthers() {
        Refusals open = new Refusals(checks, Houses::open);
        open.none("none FITS", x -> x.finest(0, 189, 0));
        for (int n : new int[] {LEAST, -1, 2, 6, GREATEST}) {
            open.none("finest of CHART " + n, x -> x.finest(n, 400, 0));
        }
        for (int n : new int[] {LEAST, -1, 0, 9, 30001, GREATEST}) {
            open.none("finest for HIGH " + n, x -> x.finest(0, n, 0));
        }
        for (int n : new int[] {LEAST, -1, 1, 2, 3, GREATEST}) {
            open.none("finest of PAGE " + n, x -> x.finest(0, 400, n));
        }
        for (int size = 2; size <= 4; size++) {
            ThreadCharts x = Houses.charted(size, 10);
            x.list(7);
            for (int page = -1; page < 5; page++) {
                boolean there = page >= 0 && page < size - 1;
                checks.due(size + " TERMS, PAGE " + page, x.finest(0, 30000, page), there ? 707 : NONE);
            }
        }
    }

    /** "a SEAM (..; 0 at first), and LOW and UP (..; 0 at first)" */
    private static void paperIsFlatAtFirst() {
        ThreadCharts x = Checks.plainHouse();
        x.paper(0, 5, 50, 50);
        x.chart(0, 21, 100, 101, 0, 0);
        for (int y : new int[] {-100000, -30000, -1, 0, 1, 30000, 100000}) {
            checks.due("a new CHART's " + y, x.swelled(1, y, false), y);
            checks.due("a new CHART's " + y + " back", x.swelled(1, y, true), y);
        }
        checks.due("the other one's", x.swelled(0, 1005, false), 1055);
    }

    /** "a SEAM (-30000 .. 30000 ..), and LOW and UP (-50 .. 50 ..)" */
    private static void edgesOfPaper() {
        ThreadCharts x = Checks.plainHouse();
        checks.due("SEAM 30000", x.paper(0, 30000, 50, -50), true);
        checks.due("at it", x.swelled(0, 30000, false), 31500);
        checks.due("one above", x.swelled(0, 30001, false), 31501);
        checks.due("19 above", x.swelled(0, 30019, false), 31519);
        checks.due("20 above", x.swelled(0, 30020, false), 31519);
        checks.due("SEAM -30000", x.paper(0, -30000, -50, 50), true);
        checks.due("at it", x.swelled(0, -30000, false), -28500);
        checks.due("one below", x.swelled(0, -30001, false), -28501);
        checks.due("20 above", x.swelled(0, -29980, false), -28479);
        int[][] due = {{30001, 0, 0}, {-30001, 0, 0}, {0, 51, 0}, {0, -51, 0}, {0, 0, 51}, {0, 0, -51}};
        for (int[] d : due) {
            checks.due("paper of " + d[0] + " " + d[1] + " " + d[2], x.paper(0, d[0], d[1], d[2]), false);
            checks.due("it stays", x.swelled(0, -29980, false), -28479);
        }
        checks.due("flat again", x.paper(0, 0, 0, 0), true);
        checks.due("at 30000", x.swelled(0, 30000, false), 30000);
    }

    /** "false if there is none such, or it can't be." */
    private static void paperThatCannotBe() {
        Refusals open = new Refusals(checks, Houses::open);
        for (int n : new int[] {LEAST, -1, 2, 6, GREATEST}) {
            open.no("paper of CHART " + n, x -> x.paper(n, 1, 1, 1));
        }
        for (int n : new int[] {LEAST, -30001, 30001, GREATEST}) {
            open.no("SEAM " + n, x -> x.paper(0, n, 1, 1));
            open.no("SEAM " + n + " of CHART 1", x -> x.paper(1, n, 1, 1));
        }
        for (int n : new int[] {LEAST, -51, 51, GREATEST}) {
            open.no("LOW " + n, x -> x.paper(0, 1, n, 1));
            open.no("UP " + n, x -> x.paper(0, 1, 1, n));
            open.no("UP of CHART 1 " + n, x -> x.paper(1, 1, 1, n));
        }
    }

    /** "up to the SEAM at y and y times LOW by 1000 ..; above it at what the SEAM has, and y less SEAM, and that .." */
    private static void upToTheSeamAndAbove() {
        ThreadCharts x = Checks.plainHouse();
        x.paper(0, 100, 50, -50);
        int[][] due = {{-100, -105}, {0, 0}, {99, 103}, {100, 105}, {101, 106}, {119, 124}, {120, 124}, {200, 200}};
        for (int[] d : due) {
            checks.due("with SEAM 100, " + d[0], x.swelled(0, d[0], false), d[1]);
        }
        x.paper(0, -100, 50, -50);
        int[][] below = {{-120, -126}, {-101, -106}, {-100, -105}, {-99, -104}, {-81, -86}, {-80, -86}, {0, -10}};
        for (int[] d : below) {
            checks.due("with SEAM -100, " + d[0], x.swelled(0, d[0], false), d[1]);
        }
    }

    /** "(cut toward 0)": LOW below and above 0, UP above it. */
    private static void cutTowardZero() {
        ThreadCharts x = Checks.plainHouse();
        x.paper(0, 2000, 1, 0);
        int[][] low = {{999, 999}, {1000, 1001}, {1999, 2000}, {-999, -999}, {-1000, -1001}, {-1999, -2000}};
        for (int[] d : low) {
            checks.due("LOW 1, " + d[0], x.swelled(0, d[0], false), d[1]);
        }
        x.paper(0, 2000, -1, 0);
        int[][] lower = {{999, 999}, {1000, 999}, {-999, -999}, {-1000, -999}, {-1001, -1000}};
        for (int[] d : lower) {
            checks.due("LOW -1, " + d[0], x.swelled(0, d[0], false), d[1]);
        }
        x.paper(0, -2000, 0, -1);
        int[][] up = {{-2000, -2000}, {-1001, -1001}, {-1000, -1001}, {-999, -1000}, {0, -2}};
        for (int[] d : up) {
            checks.due("UP -1, " + d[0], x.swelled(0, d[0], false), d[1]);
        }
    }

    /** "a point y (-100000 .. 100000)"; "VOID if there is none such." */
    private static void pointsThatCannotBeAsked() {
        Refusals open = new Refusals(checks, Houses::open);
        for (int y : new int[] {LEAST, -100001, 100001, GREATEST}) {
            open.isVoid("swelled " + y, x -> x.swelled(0, y, false));
            open.isVoid("swelled back " + y, x -> x.swelled(0, y, true));
        }
        for (int n : new int[] {LEAST, -1, 2, 6, GREATEST}) {
            open.isVoid("swelled of CHART " + n, x -> x.swelled(n, 0, false));
            open.isVoid("swelled back of CHART " + n, x -> x.swelled(n, 0, true));
        }
        ThreadCharts x = Checks.plainHouse();
        x.paper(0, 0, 50, 50);
        checks.due("100000", x.swelled(0, 100000, false), 105000);
        checks.due("-100000", x.swelled(0, -100000, false), -105000);
    }

    /** "the greatest whole number whose SWELLED place isn't above y": where two lie alike, and where none lies. */
    private static void placesReadAtTheEdges() {
        ThreadCharts x = Checks.plainHouse();
        x.paper(0, 0, 50, 50);
        int[][] due = {{19, 19}, {20, 19}, {21, 20}, {-19, -19}, {-20, -20}, {-21, -20}, {100000, 95239}, {-100000, -95239}};
        for (int[] d : due) {
            checks.due("swelled paper at " + d[0], x.swelled(0, d[0], true), d[1]);
        }
        x.paper(0, 0, -50, -50);
        int[][] shrunk = {{0, 0}, {1, 1}, {18, 18}, {19, 20}, {20, 21}, {-19, -19}, {-20, -21}, {100000, 105263},
            {-100000, -105263}};
        for (int[] d : shrunk) {
            checks.due("shrunk paper at " + d[0], x.swelled(0, d[0], true), d[1]);
        }
        x.paper(0, 30000, -50, 50);
        checks.due("the SEAM's place", x.swelled(0, 28500, true), 30000);
        checks.due("above it", x.swelled(0, 28501, true), 30001);
        // 29999 times 50 is cut to 1499: it lies where the SEAM lies.
        checks.due("below it", x.swelled(0, 28499, true), 29998);
    }

    /** "NOW is n DAYS later (0 .. 50; ..): NOW; NONE for another n." */
    private static void daysToGo() {
        for (int n = -3; n <= 55; n++) {
            ThreadCharts x = new ThreadCharts();
            boolean goes = n >= 0 && n <= 50;
            checks.due("go(" + n + ")", x.go(n), goes ? n : NONE);
            checks.due("NOW", x.count(0), goes ? n : 0);
            checks.due("go(1)", x.go(1), goes ? n + 1 : 1);
        }
    }

    /** "DAYS are 0 .. 300"; "300 at most" */
    private static void threehundredAtMost() {
        int[][] due = {{249, 50, 299}, {250, 50, 300}, {251, 50, 300}, {299, 0, 299}, {299, 1, 300}, {299, 2, 300},
            {299, 50, 300}, {300, 0, 300}, {300, 1, 300}, {300, 50, 300}};
        for (int[] d : due) {
            ThreadCharts x = Checks.plainHouse();
            x.reading(0, 305);
            for (int i = 0; i < 6; i++) {
                x.go(Math.min(50, d[0] - x.count(0)));
            }
            checks.due("from", x.count(0), d[0]);
            checks.due("from " + d[0] + " go(" + d[1] + ")", x.go(d[1]), d[2]);
            checks.due("NOW", x.count(0), d[2]);
            checks.due("the last DAY", x.read(d[2], 0), 8);
            checks.due("no DAY behind it", x.read(d[2] + 1, 0), VOID);
        }
    }

    private static void goIsRefused() {
        Refusals open = new Refusals(checks, Houses::open);
        Refusals full = new Refusals(checks, Houses::brimful);
        for (int n : new int[] {LEAST, -50, -1, 51, 300, GREATEST}) {
            open.none("go(" + n + ")", x -> x.go(n));
            full.none("go(" + n + ") at 300", x -> x.go(n));
        }
    }

    /** "another number (-99999 .. 99999)" */
    private static void edgesOfMovedNumbers() {
        int[][] due = {{LEAST, NONE}, {-100000, NONE}, {-99999, 1}, {-1, 1}, {0, 1}, {99999, 1}, {100000, NONE},
            {GREATEST, NONE}};
        for (int[] d : due) {
            ThreadCharts x = Houses.charted(2, 10);
            x.reading(0, 700);
            checks.due("move to " + d[0], x.move(0, 1, 7, d[0]), d[1]);
            checks.due("READ", x.read(0, 0), d[1] == 1 ? d[0] : 7);
            checks.due("left point", x.lead(0, 0), d[1] == 1 ? 10 * d[0] : 70);
            checks.due("MOVED MARKS", x.count(3), d[1] == 1 ? 1 : 0);
        }
    }

    /** The longest thread that can be laid: 99999 on all lines, MODULI that make the most of it, WIDE 10. */
    private static void greatNumbersDoNotWrap() {
        for (int sign = -1; sign <= 1; sign += 2) {
            for (int moduli : new int[] {101, 150, 5001, 5050}) {
                ThreadCharts x = Houses.ranged(4, 2);
                x.chart(0, 1234, 10, moduli, moduli, moduli);
                x.reading(0, 0);
                for (int t = 1; t <= 4; t++) {
                    x.move(0, t, 0, sign * 99999);
                }
                long sum = sign * 99999L;
                for (int page = 0; page < 3; page++) {
                    sum = led(x, page, moduli / 100, moduli % 100, sum, sign * 99999L);
                }
                checks.due("READ", x.read(0, 0), sum);
                checks.due("it is OFF", x.read(0, 1), NONE);
                checks.due("EXACT is not MOVED", x.read(0, 2), 0);
            }
        }
    }

    private static long led(ThreadCharts x, int page, long left, long right, long ahead, long next) {
        long a = left * ahead;
        long b = right * next;
        long mid = 10 * left / (left + right);
        long meets = a + Math.floorDiv(2 * (b - a) * mid + 10, 20);
        long sum = Math.floorDiv(2 * meets * (left + right) + left * right, 2 * left * right);
        checks.due("left", x.lead(page, 0), a);
        checks.due("right", x.lead(page, 1), b);
        checks.due("meets", x.lead(page, 2), meets);
        checks.due("SUM", x.lead(page, 3), sum);
        return sum;
    }

    /** "MOVED MARKS (40 at most of all)": of all CHARTS, TERMS and MARKS, and the same one again counts again. */
    private static void fortyMovedOfAll() {
        ThreadCharts x = Houses.charted(2, 10);
        x.chart(0, 21, 100, 1010, 0, 0);
        for (int i = 1; i <= 40; i++) {
            checks.due("move", x.move(i % 2, 1 + i % 3 % 2, i % 5, i), i);
        }
        for (int c = 0; c < 2; c++) {
            checks.due("one more of CHART " + c, x.move(c, 1, 9, 5), NONE);
            checks.due("MOVED MARKS", x.count(3), 40);
        }
        Refusals full = new Refusals(checks, Houses::brimful);
        full.none("a forty-first", y -> y.move(0, 1, 1, 77));
        full.none("a forty-first of a MARK that stands", y -> y.move(5, 2, 3, -77));
    }

    /** "NONE if there is no such CHART, TERM or MARK, the number can't be": TERM 0 is none of the ORDER. */
    private static void movesThatCannotBe() {
        Refusals open = new Refusals(checks, Houses::open);
        for (int n : new int[] {LEAST, -1, 2, 6, GREATEST}) {
            open.none("move of CHART " + n, x -> x.move(n, 1, 1, 7));
        }
        for (int n : new int[] {LEAST, -1, 0, 3, 4, 5, GREATEST}) {
            open.none("move of TERM " + n, x -> x.move(0, n, 1, 7));
        }
        for (int n : new int[] {LEAST, -1, 20, 40, GREATEST}) {
            open.none("move of MARK " + n, x -> x.move(0, 1, n, 7));
        }
        for (int n : new int[] {LEAST, -100000, 100000, GREATEST}) {
            open.none("move to " + n, x -> x.move(0, 1, 1, n));
        }
        for (int size = 2; size <= 4; size++) {
            ThreadCharts x = Houses.charted(size, 10);
            checks.due("the last TERM's last MARK", x.move(0, size, 9, 7), 1);
            checks.due("behind the last TERM", x.move(0, size + 1, 0, 7), NONE);
            checks.due("behind the last MARK", x.move(0, size, 10, 7), NONE);
        }
    }

    /** "from NOW on; AS KNOWN on a DAY the latest told up to it." */
    private static void knownFromThatDayOn() {
        ThreadCharts x = Houses.charted(2, 10);
        x.reading(0, 100);
        x.move(0, 1, 1, 20);
        x.go(2);
        x.move(0, 1, 1, 30);
        x.move(0, 1, 1, 31);
        x.go(1);
        x.move(0, 1, 1, 40);
        x.go(1);
        int[] due = {20, 20, 31, 40, 40};
        for (int day = 0; day < due.length; day++) {
            checks.due("READ on DAY " + day, x.read(day, 0), due[day]);
        }
        x.move(0, 1, 1, 50);
        checks.due("on the DAY of the telling", x.read(4, 0), 50);
        checks.due("the DAY ahead", x.read(3, 0), 40);
        x.reading(0, 200);
        checks.due("another MARK", x.read(4, 0), 2);
    }
}
