/** What the tests share: comparing answers, and telling texts to an object. */
final class Checks {
    static final int NONE = -1;
    static final int VOID = -2147483648;

    private int asked;
    private int wrong;

    void due(String call, long got, long want) {
        asked++;
        if (got != want) {
            wrong++;
            if (wrong <= 40) {
                System.out.println(call + " answered " + got + ", due is " + want);
            }
        }
    }

    void due(String call, boolean got, boolean want) {
        due(call, got ? 1L : 0L, want ? 1L : 0L);
    }

    /** Says how it went, and ends the program with 1 if an answer was not as due. */
    void close() {
        System.out.println(wrong == 0 ? asked + " answers are as due" : wrong + " of " + asked + " answers are not as due");
        if (wrong != 0) {
            System.exit(1);
        }
    }

    /** Makes the text (of at most 120 characters below 256) the whole TEXT. */
    static void tell(ThreadCharts x, String text) {
        x.end(0);
        for (int i = 0; i < text.length(); i += 20) {
            x.feed(four(text, i), four(text, i + 4), four(text, i + 8), four(text, i + 12), four(text, i + 16));
        }
        x.end(text.length());
    }

    static int four(String text, int from) {
        int n = 0;
        for (int i = from; i < from + 4; i++) {
            n = n << 8 | (i < text.length() ? text.charAt(i) & 255 : 32);
        }
        return n;
    }

    static int faultOf(String text) {
        ThreadCharts x = new ThreadCharts();
        tell(x, text);
        return x.fault();
    }

    /** A new object with the RULE of the text. */
    static ThreadCharts withRule(String text) {
        ThreadCharts x = new ThreadCharts();
        tell(x, text);
        x.rule();
        return x;
    }

    /** c = a + b, TERM 0 0 .. 39, the others 0 .. 19, and CHART 0: flat, WIDE 100, MODULI 10 and 10. */
    static ThreadCharts plainHouse() {
        ThreadCharts x = withRule("c = a + b;");
        x.range(0, 0, 0, 1, 40);
        x.range(0, 1, 0, 1, 20);
        x.range(0, 2, 0, 1, 20);
        x.chart(0, 12, 100, 1010, 0, 0);
        return x;
    }
}
