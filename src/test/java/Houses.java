/** Houses for the tests of edges; each is built anew, and leaves room for Look within an object's 512 calls. */
final class Houses {
    private static final String[] TEXTS = {"", "", "c=a+b;", "c=a+b+d;", "c=a+b+d+e;"};
    private static final int[] ORDERS = {0, 0, 12, 123, 1234};

    private Houses() {
    }

    /** A RULE of 2 to 4 TERMS behind =, all of them from 0 on by 1, as many MARKS of each, and no CHART. */
    static ThreadCharts ranged(int size, int many) {
        ThreadCharts x = Checks.withRule(TEXTS[size]);
        for (int t = 0; t <= size; t++) {
            x.range(0, t, 0, 1, many);
        }
        return x;
    }

    /** The same with CHART 0: its TERMS as they stand, WIDE 100, MODULI 10 and 10. */
    static ThreadCharts charted(int size, int many) {
        ThreadCharts x = ranged(size, many);
        x.chart(0, ORDERS[size], 100, 1010, size > 2 ? 1010 : 0, size > 3 ? 1010 : 0);
        return x;
    }

    /**
     * Something of everything, and room for more of it: RULE 0 with two CHARTS, RULE 1 with a RANGE of TERM 0 alone,
     * a LIST of two, a TEXT that ends too early, and NOW is 4. The READING is of CHART 1.
     */
    static ThreadCharts open() {
        ThreadCharts x = Checks.plainHouse();
        x.chart(0, 21, 50, 203, 0, 0);
        Checks.tell(x, "c=a-b*b+/d-7;");
        x.rule();
        x.range(1, 0, 3, 1, 9);
        x.list(10);
        x.list(20);
        x.go(3);
        x.move(0, 1, 3, 14);
        x.go(1);
        x.move(1, 2, 2, 5);
        x.paper(0, 50, 20, -30);
        for (int i = 1; i < 9; i++) {
            x.reading(0, i * 101);
            x.report(i % 3, Math.max(0, x.read(4, 1)) + (i == 5 ? 40 : 3));
        }
        x.reading(1, 204);
        Checks.tell(x, "f = g + h + 12");
        return x;
    }

    /** As full as can be: 6 RULES, 6 CHARTS, 40 MOVED MARKS, 60 REPORTS, a LIST of 4, a TEXT of 120 bytes, DAY 300. */
    static ThreadCharts brimful() {
        ThreadCharts x = new ThreadCharts();
        for (int r = 0; r < 6; r++) {
            Checks.tell(x, "c=a+b+" + r + ";");
            x.rule();
            for (int t = 0; t < 3; t++) {
                x.range(r, t, 0, 1, t == 0 ? 40 : 10 + r);
            }
            x.chart(r, 12, 100 + r, 1010, 0, 0);
        }
        for (int i = 0; i < 4; i++) {
            x.list(10 + i);
        }
        for (int i = 0; i < 40; i++) {
            x.move(i % 6, 1 + i % 2, i % 10, i % 10 + 1);
        }
        for (int i = 0; i < 60; i++) {
            if (i % 4 == 0) {
                x.reading(i / 4 % 6, i / 4 % 10 * 101);
            }
            x.report(i % 8, i == 30 ? 399 : 5 * i);
        }
        for (int i = 0; i < 6; i++) {
            x.go(50);
        }
        Checks.tell(x, fullText());
        return x;
    }

    /** A TEXT of 120 bytes without a FAULT; its CONSTANT is 57. */
    static String fullText() {
        return "c=a+b" + "+1".repeat(57) + ";";
    }
}
