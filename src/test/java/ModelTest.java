import java.util.Random;

/** Long runs of calls of all sorts, right and wrong ones, on the class and on the Model: like answers are due. */
public final class ModelTest {
    /** The document tells of 512 calls of an object; the last step of a run may be several calls. */
    private static final int CALLS = 495;
    private static final int EXTREME_NUMBERS = 40;

    private final Checks checks;
    private final Random random;
    private final ThreadCharts x = new ThreadCharts();
    private final Model m = new Model();
    private final String run;
    private int calls;
    /** Marks that the readers of this run find elsewhere than they should. */
    private final boolean[][] cutWrong = new boolean[5][40];
    private final int[] habits = new int[8];
    private final int[][] markCounts = new int[6][5];
    private final int[] chartRules = new int[6];
    private final int[] chartOrders = new int[6];
    private boolean readsWrongMark;

    private ModelTest(Checks checks, int seed) {
        this.checks = checks;
        random = new Random(seed);
        run = "run " + seed;
        for (int i = 0; i < 8; i++) {
            habits[i] = random.nextInt(23) - 11;
        }
        for (int i = random.nextInt(6); i > 0; i--) {
            cutWrong[1 + random.nextInt(4)][random.nextInt(7)] = true;
        }
    }

    public static void main(String[] args) {
        Checks checks = new Checks();
        int runs = args.length > 1 ? Integer.parseInt(args[1]) : 400;
        for (int seed = 1; seed <= runs; seed++) {
            new ModelTest(checks, seed).go();
        }
        checks.close();
    }

    private void go() {
        int style = random.nextInt(3);
        if (style == 0) {
            textsAlone();
            return;
        }
        buildHouse(style == 1);
        // By chance alone a run seldom comes near the last DAY.
        for (int n = below(3) == 0 ? 6 : 0; n > 0; n--) {
            go(between(44, 50));
        }
        while (calls < CALLS) {
            anyCall(style == 1);
        }
    }

    // ---- the generator

    private int below(int n) {
        return random.nextInt(n);
    }

    private int between(int least, int greatest) {
        return least + random.nextInt(greatest - least + 1);
    }

    /** Mostly a number in the bounds, at times one at or behind their edges, at times any number. */
    private int about(int least, int greatest) {
        switch (below(EXTREME_NUMBERS)) {
            case 0:
                return least - 1;
            case 1:
                return greatest + 1;
            case 2:
                return random.nextInt();
            case 3:
                return random.nextBoolean() ? Integer.MAX_VALUE : Integer.MIN_VALUE;
            case 4:
            case 5:
                return least;
            case 6:
            case 7:
                return greatest;
            default:
                return between(least, greatest);
        }
    }

    private void due(String call, long got, long want) {
        calls++;
        checks.due(run + " call " + calls + ": " + call, got, want);
    }

    private void due(String call, boolean got, boolean want) {
        due(call, got ? 1 : 0, want ? 1 : 0);
    }

    private void textsAlone() {
        while (calls < CALLS) {
            String text = randomText();
            for (int n = below(3); n > 0; n--) {
                text = spoiled(text);
            }
            tell(text);
            for (int end = text.length(); end >= 0 && calls < CALLS && below(4) != 0; end -= 1 + below(4)) {
                end(end);
                fault();
            }
            if (below(6) == 0) {
                rule();
                told(below(6), below(26));
            }
        }
    }

    private String blanks() {
        return below(4) == 0 ? " ".repeat(below(3)) : "";
    }

    private String form(char letter) {
        switch (below(3)) {
            case 0:
                return letter + blanks();
            case 1:
                return letter + blanks() + "*" + blanks() + letter + blanks();
            default:
                return "/" + blanks() + letter + blanks();
        }
    }

    private String randomText() {
        StringBuilder b = new StringBuilder(blanks());
        String letters = "qwertyabcz";
        int at = below(3);
        b.append(form(letters.charAt(at++))).append("=").append(blanks());
        if (below(3) == 0) {
            b.append("-").append(blanks());
        }
        b.append(form(letters.charAt(at++)));
        int forms = 1;
        int wanted = 2 + below(3);
        while (forms < wanted || below(3) == 0) {
            b.append(below(2) == 0 ? "+" : "-").append(blanks());
            if (forms < wanted && below(3) != 0) {
                b.append(form(letters.charAt(at++)));
                forms++;
            } else {
                b.append(below(8) == 0 ? between(9990, 10003) : between(0, 300)).append(blanks());
            }
        }
        String text = b.append(";").append(blanks()).toString();
        return text.length() <= 120 ? text : "c=a+b;";
    }

    private String spoiled(String text) {
        String signs = "abcqwe0123456789=+-*/;;  \n~A";
        int at = below(text.length() + 1);
        String sign = String.valueOf(below(9) == 0 ? (char) below(256) : signs.charAt(below(signs.length())));
        String more = text.substring(0, at) + sign + text.substring(below(2) == 0 || at == text.length() ? at : at + 1);
        return more.length() <= 120 ? more : text;
    }

    private void tell(String text) {
        end(0);
        for (int i = 0; i < text.length(); i += 20) {
            feed(Checks.four(text, i), Checks.four(text, i + 4), Checks.four(text, i + 8),
                    Checks.four(text, i + 12), Checks.four(text, i + 16));
        }
        end(text.length());
        fault();
    }

    private void buildHouse(boolean readable) {
        int rules = 1 + below(readable ? 2 : 6);
        for (int r = 0; r < rules; r++) {
            tell(readable ? readableText() : randomText());
            rule();
            for (int t = 0; t < m.told(r, 0); t++) {
                rangeOf(r, t, readable);
            }
        }
        for (int c = 1 + below(3); c > 0; c--) {
            chartOf(below(rules));
        }
    }

    /** TERM 0 plain, so that most of what is read has TENTHS. */
    private String readableText() {
        String[] texts = {"c = a + b;", "c = a - b + 7;", "c = a + b - d + 30;", "c = -a + b + d - e;", "c = a*a + b - 5;",
            "c = a + /b - d*d;"};
        return texts[below(texts.length)];
    }

    private void rangeOf(int r, int t, boolean readable) {
        int kind = m.told(r, 10 + t);
        int many = below(4) == 0 ? about(2, 40) : between(2, 40);
        if (readable && t == 0) {
            range(r, 0, between(-200, -100), 10, 40);
        } else if (readable) {
            range(r, t, kind == 2 ? 100 + below(300) : below(4), 1, 5 + below(4));
        } else if (kind == 0) {
            range(r, t, about(-999, 999) / 2, 1 + below(30), many);
        } else if (kind == 1) {
            range(r, t, between(0, 20), between(1, 2), many);
        } else {
            range(r, t, between(1, 20), between(1, 20), many);
        }
        range(r, t, between(1, 3), between(1, 2), between(2, 40));
    }

    private int moduli(boolean there) {
        if (!there) {
            return below(20) == 0 ? 101 : 0;
        }
        return below(12) == 0 ? about(100, 5050) : between(1, 50) * 100 + between(1, 50);
    }

    private void chartOf(int r) {
        int size = Math.max(m.told(r, 0), 1) - 1;
        int order = 0;
        int seen = 0;
        for (int i = 0; i < size; ) {
            int t = 1 + below(size);
            if ((seen >> t & 1) == 0 || below(60) == 0) {
                seen |= 1 << t;
                order = order * 10 + t;
                i++;
            }
        }
        if (below(20) == 0) {
            order = about(12, 4321);
        }
        int wide = below(8) == 0 ? about(10, 1000) : between(10, 400);
        int before = m.count(2);
        chart(r, order, wide, moduli(size > 1), moduli(size > 2), moduli(size > 3));
        if (m.count(2) > before) {
            chartRules[before] = r;
            chartOrders[before] = order;
        }
    }

    private int anyChart() {
        return about(0, Math.max(0, m.count(2) - 1));
    }

    private void anyReading(boolean readable) {
        int chart = anyChart();
        int marks = below(40) == 0 ? random.nextInt() : below(4000);
        if (chart >= 0 && chart < m.count(2)) {
            marks = marksFor(chartRules[chart], Integer.toString(chartOrders[chart]));
        }
        reading(chart, below(20) == 0 ? marks + 100 * between(-40, 40) : marks);
    }

    private int marksFor(int rule, String order) {
        int marks = 0;
        readsWrongMark = false;
        for (char digit : order.toCharArray()) {
            int term = digit - '0';
            int mark = below(80) == 0 ? markCounts[rule][term] : below(markCounts[rule][term]);
            readsWrongMark |= mark < 40 && cutWrong[term][mark];
            marks = marks * 100 + mark;
        }
        return marks;
    }

    private void anyReport(boolean readable) {
        anyReading(readable);
        int reader = below(readable ? 4 : 8);
        int tenths = m.read(m.count(0), 1);
        if (tenths < 0 || below(30) == 0) {
            report(about(0, 7), about(0, 399));
            return;
        }
        tenths += habits[reader] + (below(6) == 0 ? between(-3, 3) : 0);
        tenths += readsWrongMark || below(40) == 0 ? between(25, 60) : 0;
        report(reader, Math.max(0, Math.min(399, tenths)));
    }

    private void anyCall(boolean readable) {
        switch (below(30)) {
            case 0:
                tell(below(2) == 0 ? spoiled(randomText()) : randomText());
                break;
            case 1:
                rule();
                break;
            case 2:
                told(about(0, 5), about(0, 26));
                break;
            case 3:
                rangeOf(below(6), below(5), readable);
                break;
            case 4:
                mark(about(0, 3), about(0, 4), about(0, 40));
                break;
            case 5:
                chartOf(below(Math.max(1, m.count(1))));
                break;
            case 6:
            case 7:
                anyReading(readable);
                break;
            case 8:
            case 9:
                read(about(0, m.count(0)), about(0, 2));
                break;
            case 10:
            case 11:
                lead(about(0, 2), about(0, 3));
                break;
            case 12:
                span(about(0, 50), below(2) == 0);
                break;
            case 13:
                page(anyChart(), about(0, 2), about(0, 1));
                break;
            case 14:
                sharpest(anyChart(), about(0, 50), about(0, 1));
                break;
            case 15:
            case 16:
                list(about(1, 50));
                break;
            case 17:
                if (below(3) == 0) {
                    clear();
                }
                finest(anyChart(), about(10, below(2) == 0 ? 30000 : 3000), about(0, 2));
                break;
            case 18:
                finest(anyChart(), about(10, 30000), about(0, 2));
                break;
            case 19:
                paper(anyChart(), about(-30000, 30000) / (below(3) == 0 ? 1 : 100), about(-50, 50), about(-50, 50));
                break;
            case 20:
                swelled(anyChart(), about(-100000, 100000) / (below(2) == 0 ? 1 : 500), below(2) == 0);
                break;
            case 21:
                go(below(3) == 0 ? about(0, 50) : below(5));
                break;
            case 22:
                if (below(2) == 0) {
                    move(anyChart(), about(0, 4), about(0, readable ? 8 : 39), about(-99999, 99999) / (readable ? 1000 : 1));
                }
                break;
            case 23:
            case 24:
                for (int many = readable ? 3 : 1; many > 0; many--) {
                    anyReport(readable);
                }
                break;
            case 25:
                due(about(0, Math.max(0, m.count(4) - 1)), about(0, 20), about(0, 1));
                break;
            case 26:
                habit(about(0, 7));
                break;
            case 27:
            case 28:
                int chart = anyChart();
                int bound = about(0, 20);
                for (int what = 0; what < 5; what++) {
                    suspects(chart, bound, what);
                }
                suspects(anyChart(), about(0, 20), about(0, 12));
                break;
            default:
                count(about(0, 7));
                break;
        }
    }

    // ---- the calls

    private static String args(int... all) {
        StringBuilder b = new StringBuilder("(");
        for (int i = 0; i < all.length; i++) {
            b.append(i == 0 ? "" : ", ").append(all[i]);
        }
        return b.append(")").toString();
    }

    private void feed(int a, int b, int c, int d, int e) {
        due("feed" + args(a, b, c, d, e), x.feed(a, b, c, d, e), m.feed(a, b, c, d, e));
    }

    private void end(int n) {
        due("end" + args(n), x.end(n), m.end(n));
    }

    private void fault() {
        due("fault()", x.fault(), m.fault());
    }

    private void rule() {
        due("rule()", x.rule(), m.rule());
    }

    private void told(int rule, int what) {
        due("told" + args(rule, what), x.told(rule, what), m.told(rule, what));
    }

    private void range(int rule, int term, int from, int step, int many) {
        int got = x.range(rule, term, from, step, many);
        due("range" + args(rule, term, from, step, many), got, m.range(rule, term, from, step, many));
        if (got != Checks.NONE) {
            markCounts[rule][term] = got;
        }
    }

    private void mark(int rule, int term, int mark) {
        due("mark" + args(rule, term, mark), x.mark(rule, term, mark), m.mark(rule, term, mark));
    }

    private void chart(int rule, int order, int wide, int first, int second, int third) {
        due("chart" + args(rule, order, wide, first, second, third), x.chart(rule, order, wide, first, second, third),
                m.chart(rule, order, wide, first, second, third));
    }

    private void reading(int chart, int marks) {
        due("reading" + args(chart, marks), x.reading(chart, marks), m.reading(chart, marks));
    }

    private void read(int day, int what) {
        due("read" + args(day, what), x.read(day, what), m.read(day, what));
    }

    private void lead(int page, int what) {
        due("lead" + args(page, what), x.lead(page, what), m.lead(page, what));
    }

    private void span(int e, boolean greatest) {
        due("span(" + e + ", " + greatest + ")", x.span(e, greatest), m.span(e, greatest));
    }

    private void page(int chart, int page, int what) {
        due("page" + args(chart, page, what), x.page(chart, page, what), m.page(chart, page, what));
    }

    private void sharpest(int chart, int e, int what) {
        due("sharpest" + args(chart, e, what), x.sharpest(chart, e, what), m.sharpest(chart, e, what));
    }

    private void list(int modulus) {
        due("list" + args(modulus), x.list(modulus), m.list(modulus));
    }

    private void clear() {
        due("clear()", x.clear(), m.clear());
    }

    private void finest(int chart, int high, int page) {
        due("finest" + args(chart, high, page), x.finest(chart, high, page), m.finest(chart, high, page));
    }

    private void paper(int chart, int seam, int low, int up) {
        due("paper" + args(chart, seam, low, up), x.paper(chart, seam, low, up), m.paper(chart, seam, low, up));
    }

    private void swelled(int chart, int y, boolean back) {
        due("swelled(" + chart + ", " + y + ", " + back + ")", x.swelled(chart, y, back), m.swelled(chart, y, back));
    }

    private void go(int n) {
        due("go" + args(n), x.go(n), m.go(n));
    }

    private void move(int chart, int term, int mark, int number) {
        due("move" + args(chart, term, mark, number), x.move(chart, term, mark, number), m.move(chart, term, mark, number));
    }

    private void report(int reader, int tenths) {
        due("report" + args(reader, tenths), x.report(reader, tenths), m.report(reader, tenths));
    }

    private void due(int report, int bound, int what) {
        due("due" + args(report, bound, what), x.due(report, bound, what), m.due(report, bound, what));
    }

    private void habit(int reader) {
        due("habit" + args(reader), x.habit(reader), m.habit(reader));
    }

    private void suspects(int chart, int bound, int what) {
        due("suspects" + args(chart, bound, what), x.suspects(chart, bound, what), m.suspects(chart, bound, what));
    }

    private void count(int what) {
        due("count" + args(what), x.count(what), m.count(what));
    }
}
