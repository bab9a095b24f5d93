/** Promises 21 and 22: go and move; and what READ and LEAD are AS KNOWN on a DAY. */
public final class ErrataTest {
    private static final int NONE = Checks.NONE;
    private static final int VOID = Checks.VOID;
    private static final Checks checks = new Checks();

    public static void main(String[] args) {
        days();
        lastDay();
        wrongMoves();
        fortyMoves();
        asKnown();
        inPlaceOfSignTimesF();
        ofOneChartAlone();
        checks.close();
    }

    private static void days() {
        ThreadCharts x = new ThreadCharts();
        checks.due("go(-1)", x.go(-1), NONE);
        checks.due("go(51)", x.go(51), NONE);
        checks.due("go(greatest)", x.go(2147483647), NONE);
        checks.due("still 0", x.count(0), 0);
        checks.due("go(0)", x.go(0), 0);
        for (int i = 1; i <= 5; i++) {
            checks.due("go(50)", x.go(50), 50 * i);
        }
        checks.due("go(1)", x.go(1), 251);
        checks.due("go(49) to 300", x.go(49), 300);
        checks.due("go(0)", x.go(0), 300);
        checks.due("300", x.count(0), 300);
    }

    /** NOW stays at the last DAY, whatever n is; what is no n is refused there too. */
    private static void lastDay() {
        for (int from = 250; from <= 300; from += 7) {
            for (int n = 0; n <= 50; n++) {
                ThreadCharts x = new ThreadCharts();
                for (int i = 0; i < 5; i++) {
                    x.go(50);
                }
                x.go(from - 250);
                int now = Math.min(300, from + n);
                checks.due("from " + from + " go(" + n + ")", x.go(n), now);
                checks.due("NOW", x.count(0), now);
                checks.due("go(51)", x.go(51), NONE);
                checks.due("go(-1)", x.go(-1), NONE);
                checks.due("still", x.count(0), now);
            }
        }
        ThreadCharts y = Checks.plainHouse();
        for (int i = 0; i < 9; i++) {
            y.go(49);
        }
        y.reading(0, 305);
        int before = y.read(299, 0);
        y.move(0, 1, 3, 4);
        checks.due("MOVED on the last DAY", y.read(300, 0), before + 1);
        checks.due("the DAY ahead", y.read(299, 0), before);
        checks.due("no DAY", y.read(301, 0), VOID);
    }

    private static void wrongMoves() {
        ThreadCharts x = Checks.plainHouse();
        checks.due("no chart", x.move(1, 1, 0, 5), NONE);
        checks.due("no chart", x.move(-1, 1, 0, 5), NONE);
        checks.due("TERM 0 is not of the ORDER", x.move(0, 0, 0, 5), NONE);
        checks.due("no term", x.move(0, 3, 0, 5), NONE);
        checks.due("no term", x.move(0, -1, 0, 5), NONE);
        checks.due("no mark", x.move(0, 1, 20, 5), NONE);
        checks.due("no mark", x.move(0, 1, -1, 5), NONE);
        checks.due("number", x.move(0, 1, 0, 100000), NONE);
        checks.due("number", x.move(0, 1, 0, -100000), NONE);
        checks.due("number", x.move(0, 1, 0, VOID), NONE);
        checks.due("none was moved", x.count(3), 0);
        checks.due("edge", x.move(0, 1, 19, 99999), 1);
        checks.due("edge", x.move(0, 2, 0, -99999), 2);
        checks.due("two were", x.count(3), 2);
    }

    private static void fortyMoves() {
        ThreadCharts x = Checks.plainHouse();
        x.reading(0, 0);
        for (int i = 1; i <= 40; i++) {
            checks.due("the same mark again", x.move(0, 1, 0, i), i);
            checks.due("the latest counts", x.read(0, 0), i);
        }
        checks.due("one more", x.move(0, 1, 0, 41), NONE);
        checks.due("forty", x.count(3), 40);
        checks.due("the fortieth counts", x.read(0, 0), 40);
    }

    private static void asKnown() {
        ThreadCharts x = Checks.plainHouse();
        x.reading(0, 305);
        x.go(2);
        x.move(0, 1, 3, 4);
        x.go(3);
        x.move(0, 1, 3, 10);
        x.move(0, 2, 5, 7);
        x.go(1);
        int[] due = {8, 8, 9, 9, 9, 17, 17};
        for (int day = 0; day < due.length; day++) {
            checks.due("day " + day, x.read(day, 0), due[day]);
            checks.due("tenths of day " + day, x.read(day, 1), 10L * due[day]);
            checks.due("exact of day " + day, x.read(day, 2), 8);
        }
        checks.due("no such day", x.read(7, 0), VOID);
        checks.due("LEAD is AS KNOWN NOW", x.lead(0, 0), 100);
        checks.due("LEAD is AS KNOWN NOW", x.lead(0, 1), 70);
        checks.due("LEAD is AS KNOWN NOW", x.lead(0, 3), 17);
        checks.due("F stays", x.mark(0, 1, 3), 3);
        x.reading(0, 405);
        checks.due("another mark of TERM 1", x.read(6, 0), 11);
        x.reading(0, 303);
        checks.due("the same mark of TERM 2", x.read(6, 0), 13);
        x.move(0, 1, 3, 99999);
        checks.due("far off", x.read(6, 1), NONE);
        checks.due("the day before", x.read(5, 1), 130);
    }

    private static void inPlaceOfSignTimesF() {
        ThreadCharts x = Checks.withRule("c = a - b*b;");
        x.range(0, 0, -20, 1, 40);
        x.range(0, 1, 0, 1, 10);
        x.range(0, 2, 0, 1, 10);
        x.chart(0, 21, 100, 1010, 0, 0);
        x.reading(0, 305);
        checks.due("5 less 9", x.read(0, 0), -4);
        checks.due("b's third mark", x.move(0, 2, 3, 6), 1);
        checks.due("6 and 5", x.read(0, 0), 11);
        checks.due("the left point", x.lead(0, 0), 60);
        checks.due("exact", x.read(0, 2), -4);
    }

    private static void ofOneChartAlone() {
        ThreadCharts x = Checks.plainHouse();
        x.chart(0, 21, 100, 1010, 0, 0);
        x.move(1, 1, 3, 13);
        x.reading(0, 305);
        checks.due("chart 0", x.read(0, 0), 8);
        x.reading(1, 503);
        checks.due("chart 1", x.read(0, 0), 18);
    }
}
