/** Promises 16 to 18: list, clear, finest. */
public final class FinestTest {
    private static final int NONE = Checks.NONE;
    private static final int VOID = Checks.VOID;
    private static final Checks checks = new Checks();

    public static void main(String[] args) {
        lists();
        wrongCalls();
        firstInTheListOfLikeOnes();
        fractions();
        eachPage();
        flatAndUnmoved();
        checks.close();
    }

    private static void listAnew(ThreadCharts x, int... moduli) {
        x.clear();
        for (int m : moduli) {
            x.list(m);
        }
    }

    private static void lists() {
        ThreadCharts x = new ThreadCharts();
        checks.due("list(0)", x.list(0), NONE);
        checks.due("list(51)", x.list(51), NONE);
        checks.due("list(-1)", x.list(-1), NONE);
        checks.due("list(least)", x.list(VOID), NONE);
        checks.due("list(1)", x.list(1), 1);
        checks.due("list(1) again", x.list(1), NONE);
        checks.due("list(50)", x.list(50), 2);
        checks.due("list(7)", x.list(7), 3);
        checks.due("list(50) again", x.list(50), NONE);
        checks.due("count", x.count(5), 3);
        checks.due("list(8)", x.list(8), 4);
        checks.due("a fifth", x.list(9), NONE);
        checks.due("count", x.count(5), 4);
        checks.due("clear", x.clear(), 4);
        checks.due("count", x.count(5), 0);
        checks.due("clear again", x.clear(), 0);
        checks.due("after clear", x.list(50), 1);
    }

    private static void wrongCalls() {
        ThreadCharts x = Checks.plainHouse();
        checks.due("no list", x.finest(0, 200, 0), NONE);
        x.list(10);
        checks.due("190 is TALL", x.finest(0, 190, 0), 1010);
        checks.due("189 is too low", x.finest(0, 189, 0), NONE);
        checks.due("high 30000", x.finest(0, 30000, 0), 1010);
        checks.due("high 30001", x.finest(0, 30001, 0), NONE);
        checks.due("high 9", x.finest(0, 9, 0), NONE);
        checks.due("no chart", x.finest(1, 200, 0), NONE);
        checks.due("no chart", x.finest(-1, 200, 0), NONE);
        checks.due("no page", x.finest(0, 200, 1), NONE);
        checks.due("no page", x.finest(0, 200, -1), NONE);
        x.clear();
        checks.due("list is empty", x.finest(0, 200, 0), NONE);
        ThreadCharts low = Checks.withRule("c = a + b;");
        for (int t = 0; t < 3; t++) {
            low.range(0, t, 0, 1, 11);
        }
        low.chart(0, 12, 100, 101, 0, 0);
        low.list(1);
        checks.due("high 10", low.finest(0, 10, 0), 101);
        ThreadCharts lowest = Checks.withRule("c = a + b;");
        for (int t = 0; t < 3; t++) {
            lowest.range(0, t, 0, 1, 3);
        }
        lowest.chart(0, 12, 100, 101, 0, 0);
        lowest.list(1);
        checks.due("2 is TALL", lowest.finest(0, 10, 0), 101);
        checks.due("high 9 can't be", lowest.finest(0, 9, 0), NONE);
    }

    /** c = a - b: left 0 .. 9 LEFT, right -9 RIGHT .. 0, so TALL is 9 times LEFT and RIGHT. */
    private static ThreadCharts difference() {
        ThreadCharts x = Checks.withRule("c = a - b;");
        for (int t = 0; t < 3; t++) {
            x.range(0, t, 0, 1, 10);
        }
        x.chart(0, 12, 100, 101, 0, 0);
        return x;
    }

    private static void firstInTheListOfLikeOnes() {
        ThreadCharts x = difference();
        listAnew(x, 20, 10);
        checks.due("20 first", x.finest(0, 300, 0), 2010);
        listAnew(x, 10, 20);
        checks.due("10 first", x.finest(0, 300, 0), 1020);
        checks.due("both 20", x.finest(0, 360, 0), 2020);
        checks.due("both 10", x.finest(0, 180, 0), 1010);
        checks.due("none", x.finest(0, 179, 0), NONE);
    }

    private static void fractions() {
        ThreadCharts x = difference();
        // 4 and 4, 3 and 6, 6 and 3 all make 2.
        listAnew(x, 4, 3, 6);
        checks.due("4 first", x.finest(0, 85, 0), 404);
        listAnew(x, 3, 4, 6);
        checks.due("3 first", x.finest(0, 85, 0), 306);
        listAnew(x, 6, 4, 3);
        checks.due("6 first", x.finest(0, 85, 0), 603);
        // 12 by 7 is more than 3 * 3 by 6 and 5 * 2 by 7, though 5 and 3 would make more.
        listAnew(x, 5, 2, 3, 4);
        checks.due("fraction", x.finest(0, 63, 0), 304);
        // 10 and 1 are as high as 6 and 5, but less fine.
        listAnew(x, 10, 1, 6, 5);
        checks.due("not the greatest product of high ones", x.finest(0, 99, 0), 605);
    }

    private static void eachPage() {
        ThreadCharts x = Checks.withRule("c = a + b + d;");
        for (int t = 0; t < 4; t++) {
            x.range(0, t, 0, 1, 10);
        }
        x.chart(0, 123, 100, 101, 101, 0);
        // PAGE 0: 9 LEFT, 9 RIGHT, 18 times the fraction. PAGE 1: 18 LEFT, 9 RIGHT, 27 times the fraction.
        listAnew(x, 5, 10);
        checks.due("PAGE 0 takes the first", x.finest(0, 100, 0), 505);
        checks.due("PAGE 1 the finest", x.finest(0, 100, 1), 510);
        checks.due("PAGE 2 isn't there", x.finest(0, 100, 2), NONE);
        listAnew(x, 10, 5);
        checks.due("PAGE 0 takes the first", x.finest(0, 100, 0), 1010);
        checks.due("PAGE 1 the finest", x.finest(0, 100, 1), 510);
        checks.due("PAGE 1 has none, so PAGE 0 has none", x.finest(0, 89, 0), NONE);
        checks.due("PAGE 1 has none", x.finest(0, 89, 1), NONE);
        listAnew(x, 50, 5, 1);
        checks.due("50 never fits", x.finest(0, 90, 0), 505);
        checks.due("PAGE 1 too", x.finest(0, 90, 1), 505);
        checks.due("5 and 1 on PAGE 0", x.finest(0, 45, 0), 505);
        checks.due("1 and 5 on PAGE 1", x.finest(0, 45, 1), 105);
        checks.due("the chart keeps its own", x.page(0, 0, 1), 9);
    }

    private static void flatAndUnmoved() {
        ThreadCharts x = difference();
        x.move(0, 1, 0, -99999);
        x.paper(0, 0, 50, 50);
        listAnew(x, 10);
        checks.due("still 180", x.finest(0, 180, 0), 1010);
    }
}
