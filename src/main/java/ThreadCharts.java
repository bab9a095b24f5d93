import java.util.Arrays;

/**
 * A chart house of threads: RULES told as texts, cut into CHARTS of pages, read by threads.
 * The words in capitals are those of the document.
 */
public final class ThreadCharts {
    public static final int NONE = -1;
    public static final int VOID = -2147483648;

    private static final int MOST_BYTES = 120;
    private static final int BYTES_OF_A_FEED = 20;
    private static final int MOST_RULES = 6;
    private static final int MOST_TERMS = 5;
    private static final int FEWEST_TERMS = 3;
    private static final int MOST_MARKS = 40;
    private static final int MOST_CHARTS = 6;
    private static final int MOST_IN_ORDER = 4;
    private static final int MOST_ORDERS = 24;
    private static final int MOST_PAGES = 3;
    private static final int MOST_MODULUS = 50;
    private static final int MOST_LISTED = 4;
    private static final int MOST_EYE = 50;
    private static final int MOST_MOVED = 40;
    private static final int MOST_REPORTS = 60;
    private static final int MOST_CANDIDATES = 12;
    private static final int LAST_READER = 7;
    private static final int LAST_TENTHS = 399;
    private static final int LAST_BOUND = 20;
    private static final int LAST_DAY = 300;
    private static final int MOST_DAYS_TO_GO = 50;
    private static final int FARTHEST_HABIT = 9;

    private final Text text;
    private final Parser parser;
    private final Rule[] rules;
    private int ruleCount;
    private final Chart[] charts;
    private int chartCount;
    private final int[] listed;
    private int listedCount;
    private int now;
    private Chart readingChart;
    private int readingMarks;
    private final Errata errata;
    private final Reports reports;
    private final long[] numbers;
    private final Walk walk;
    private final OrderSearch orders;
    private final HeapSearch heaps;

    public ThreadCharts() {
        text = new Text();
        parser = new Parser();
        rules = new Rule[MOST_RULES];
        charts = new Chart[MOST_CHARTS];
        listed = new int[MOST_LISTED];
        errata = new Errata();
        reports = new Reports();
        numbers = new long[MOST_IN_ORDER];
        walk = new Walk();
        orders = new OrderSearch();
        heaps = new HeapSearch();
    }

    public int feed(int a, int b, int c, int d, int e) {
        if (text.length + BYTES_OF_A_FEED > MOST_BYTES) {
            return NONE;
        }
        text.add(a);
        text.add(b);
        text.add(c);
        text.add(d);
        text.add(e);
        return text.length;
    }

    public boolean end(int n) {
        if (n < 0 || n > text.length) {
            return false;
        }
        text.length = n;
        return true;
    }

    public int fault() {
        return parser.faultOf(text);
    }

    public int rule() {
        if (ruleCount >= MOST_RULES || parser.faultOf(text) != NONE) {
            return NONE;
        }
        rules[ruleCount] = new Rule(parser);
        ruleCount++;
        text.length = 0;
        return ruleCount - 1;
    }

    public int told(int rule, int what) {
        Rule r = ruleAt(rule);
        if (r == null) {
            return VOID;
        }
        if (what == 0) {
            return r.terms;
        }
        if (what == 1) {
            return r.constant;
        }
        if (what >= 10 && what < 20) {
            return r.kindOf(what - 10);
        }
        if (what >= 20 && what < 30) {
            return r.signOf(what - 20);
        }
        return VOID;
    }

    public int range(int rule, int term, int from, int step, int many) {
        Rule r = ruleAt(rule);
        if (r == null || !r.canRange(term, from, step, many)) {
            return NONE;
        }
        r.putRange(term, from, step, many);
        return many;
    }

    public int mark(int rule, int term, int mark) {
        Rule r = ruleAt(rule);
        if (r == null || !r.hasMark(term, mark)) {
            return VOID;
        }
        return r.numberOf(term, mark);
    }

    public int chart(int rule, int order, int wide, int first, int second, int third) {
        Rule r = ruleAt(rule);
        if (r == null || chartCount >= MOST_CHARTS || wide < 10 || wide > 1000) {
            return NONE;
        }
        if (!r.hasAllRanges() || !r.isOrder(order)) {
            return NONE;
        }
        int pages = r.terms - 2;
        if (!areModuli(first, pages > 0) || !areModuli(second, pages > 1) || !areModuli(third, pages > 2)) {
            return NONE;
        }
        Chart c = new Chart(r, chartCount, wide);
        c.putOrder(order);
        c.putModuli(0, first);
        c.putModuli(1, second);
        c.putModuli(2, third);
        charts[chartCount] = c;
        chartCount++;
        return chartCount - 1;
    }

    public boolean reading(int chart, int marks) {
        Chart c = chartAt(chart);
        if (c == null || !c.hasMarks(marks)) {
            return false;
        }
        readingChart = c;
        readingMarks = marks;
        return true;
    }

    public int read(int day, int what) {
        Chart c = readingChart;
        if (c == null || day < 0 || day > now) {
            return VOID;
        }
        if (what == 0) {
            return (int) readAsKnown(c, readingMarks, day);
        }
        if (what == 1) {
            return c.rule.tenthsOf(readAsKnown(c, readingMarks, day));
        }
        if (what == 2) {
            return exactSum(c);
        }
        return VOID;
    }

    public int lead(int page, int what) {
        Chart c = readingChart;
        if (c == null || !c.hasPage(page)) {
            return VOID;
        }
        layAsKnown(c, readingMarks, now);
        walk.along(c, numbers, page);
        switch (what) {
            case 0:
                return (int) walk.left;
            case 1:
                return (int) walk.right;
            case 2:
                return (int) walk.meets;
            case 3:
                return (int) walk.sum;
            default:
                return VOID;
        }
    }

    public int span(int e, boolean greatest) {
        Chart c = readingChart;
        if (c == null || !isEye(e)) {
            return VOID;
        }
        layAsCut(c, readingMarks);
        return (int) c.lastSumOnFlat(numbers, greatest ? e : -e);
    }

    public int page(int chart, int page, int what) {
        Chart c = chartAt(chart);
        if (c == null || !c.hasPage(page)) {
            return NONE;
        }
        if (what == 0) {
            return (int) c.midOf(page);
        }
        if (what == 1) {
            return (int) c.tallWith(page, c.left[page], c.right[page]);
        }
        return NONE;
    }

    public int sharpest(int chart, int e, int what) {
        Chart c = chartAt(chart);
        if (c == null || !isEye(e) || what < 0 || what > 1) {
            return NONE;
        }
        orders.look(c, e);
        return what == 0 ? orders.bestOrder : (int) orders.bestWidth;
    }

    public int list(int modulus) {
        if (modulus < 1 || modulus > MOST_MODULUS || listedCount >= MOST_LISTED || isListed(modulus)) {
            return NONE;
        }
        listed[listedCount] = modulus;
        listedCount++;
        return listedCount;
    }

    public int clear() {
        int before = listedCount;
        listedCount = 0;
        return before;
    }

    public int finest(int chart, int high, int page) {
        Chart c = chartAt(chart);
        if (c == null || !c.hasPage(page) || high < 10 || high > 30000) {
            return NONE;
        }
        int asked = NONE;
        for (int p = 0; p < c.pages; p++) {
            int moduli = c.finestOf(p, high, listed, listedCount);
            if (moduli == NONE) {
                return NONE;
            }
            if (p == page) {
                asked = moduli;
            }
        }
        return asked;
    }

    public boolean paper(int chart, int seam, int low, int up) {
        Chart c = chartAt(chart);
        if (c == null || seam < -30000 || seam > 30000 || !isSwelling(low) || !isSwelling(up)) {
            return false;
        }
        c.paper.put(seam, low, up);
        reports.forgetDues();
        return true;
    }

    public int swelled(int chart, int y, boolean back) {
        Chart c = chartAt(chart);
        if (c == null || y < -100000 || y > 100000) {
            return VOID;
        }
        return (int) (back ? c.paper.placeReadAt(y) : c.paper.lies(y));
    }

    public int go(int n) {
        if (n < 0 || n > MOST_DAYS_TO_GO) {
            return NONE;
        }
        now = Math.min(now + n, LAST_DAY);
        return now;
    }

    public int move(int chart, int term, int mark, int number) {
        Chart c = chartAt(chart);
        if (c == null || term < 1 || !c.rule.hasMark(term, mark) || errata.isFull()) {
            return NONE;
        }
        if (number < -99999 || number > 99999) {
            return NONE;
        }
        errata.add(chart, term, mark, number, now);
        reports.forgetDues();
        return errata.count;
    }

    public int report(int reader, int tenths) {
        Chart c = readingChart;
        if (c == null || !isReader(reader) || tenths < 0 || tenths > LAST_TENTHS || reports.isFull()) {
            return NONE;
        }
        reports.add(reader, c.number, readingMarks, tenths, now);
        return reports.count;
    }

    public int due(int report, int bound, int what) {
        if (!reports.has(report) || !isBound(bound)) {
            return VOID;
        }
        refreshDues();
        if (what == 0) {
            return reports.dues[report];
        }
        if (what == 1) {
            return reports.isBad(report, bound) ? 1 : 0;
        }
        return VOID;
    }

    public int habit(int reader) {
        if (!isReader(reader)) {
            return VOID;
        }
        refreshDues();
        return reports.habitOf(reader);
    }

    public int suspects(int chart, int bound, int what) {
        Chart c = chartAt(chart);
        if (c == null || !isBound(bound) || what < 0) {
            return NONE;
        }
        refreshDues();
        sortReports(c, bound);
        if (!heaps.look(c.size)) {
            return NONE;
        }
        if (what == 0) {
            return heaps.fewest;
        }
        if (what == 1) {
            return heaps.ways - 1;
        }
        return heaps.suspectOfFirst(what - 2);
    }

    public int count(int what) {
        switch (what) {
            case 0:
                return now;
            case 1:
                return ruleCount;
            case 2:
                return chartCount;
            case 3:
                return errata.count;
            case 4:
                return reports.count;
            case 5:
                return listedCount;
            case 6:
                return text.length;
            case 7:
                return readingChart == null ? NONE : readingChart.number;
            default:
                return NONE;
        }
    }

    private Rule ruleAt(int n) {
        return n >= 0 && n < ruleCount ? rules[n] : null;
    }

    private Chart chartAt(int n) {
        return n >= 0 && n < chartCount ? charts[n] : null;
    }

    private boolean isListed(int modulus) {
        for (int i = 0; i < listedCount; i++) {
            if (listed[i] == modulus) {
                return true;
            }
        }
        return false;
    }

    private void layAsKnown(Chart c, int marks, int day) {
        for (int place = 0; place < c.size; place++) {
            int term = c.order[place];
            int mark = c.markAt(marks, place);
            int moved = errata.numberOn(day, c.number, term, mark);
            numbers[place] = moved == VOID ? c.rule.signedOf(term, mark) : moved;
        }
    }

    private void layAsCut(Chart c, int marks) {
        for (int place = 0; place < c.size; place++) {
            numbers[place] = c.rule.signedOf(c.order[place], c.markAt(marks, place));
        }
    }

    private long readAsKnown(Chart c, int marks, int day) {
        layAsKnown(c, marks, day);
        walk.along(c, numbers, c.pages - 1);
        return walk.sum + c.rule.constant;
    }

    private int exactSum(Chart c) {
        layAsCut(c, readingMarks);
        long sum = c.rule.constant;
        for (int place = 0; place < c.size; place++) {
            sum += numbers[place];
        }
        return (int) sum;
    }

    private void refreshDues() {
        for (int i = reports.duesKnown; i < reports.count; i++) {
            Chart c = chartAt(reports.charts[i]);
            reports.dues[i] = c == null ? NONE
                    : c.rule.tenthsOf(readAsKnown(c, reports.marks[i], reports.days[i]));
        }
        reports.duesKnown = reports.count;
    }

    private void sortReports(Chart c, int bound) {
        heaps.startOver();
        for (int i = 0; i < reports.count; i++) {
            if (reports.charts[i] == c.number && reports.dues[i] != NONE) {
                heaps.add(c, reports.marks[i], reports.isBad(i, bound));
            }
        }
    }

    private static boolean areModuli(int moduli, boolean pageIsThere) {
        if (!pageIsThere) {
            return moduli == 0;
        }
        int left = moduli / 100;
        int right = moduli % 100;
        return left >= 1 && left <= MOST_MODULUS && right >= 1 && right <= MOST_MODULUS;
    }

    private static boolean isEye(int e) {
        return e >= 0 && e <= MOST_EYE;
    }

    private static boolean isSwelling(int thousandths) {
        return thousandths >= -50 && thousandths <= 50;
    }

    private static boolean isReader(int reader) {
        return reader >= 0 && reader <= LAST_READER;
    }

    private static boolean isBound(int bound) {
        return bound >= 0 && bound <= LAST_BOUND;
    }

    /** NEAREST: adding a half and cutting downward gives the greater of two like near ones. */
    private static long nearest(long a, long by) {
        if (by <= 0) {
            return 0;
        }
        return Math.floorDiv(2 * a + by, 2 * by);
    }

    /** The bytes of the TEXT. */
    private static final class Text {
        private final byte[] bytes = new byte[MOST_BYTES];
        private int length;

        private void add(int fourBytes) {
            for (int shift = 24; shift >= 0; shift -= 8) {
                if (length < bytes.length) {
                    bytes[length] = (byte) (fourBytes >>> shift);
                    length++;
                }
            }
        }

        private int byteAt(int place) {
            return place >= 0 && place < length ? bytes[place] & 255 : 0;
        }
    }

    /** Goes through a TEXT token by token; what it found stays until the next time. */
    private static final class Parser {
        private static final int TEXT_START = 0;
        private static final int BEHIND_EQUALS = 1;
        private static final int BEHIND_FIRST_MINUS = 2;
        private static final int BEHIND_PLUS_OR_MINUS = 3;
        private static final int BEHIND_SLASH = 4;
        private static final int BEHIND_LETTER = 5;
        private static final int BEHIND_STAR = 6;
        private static final int BEHIND_PART = 7;
        private static final int CLOSED = 8;

        private final int[] kinds = new int[MOST_TERMS];
        private final int[] signs = new int[MOST_TERMS];
        private int terms;
        private int constant;
        private int state;
        private int sign;
        private int letter;
        private int lettersSeen;

        private int faultOf(Text text) {
            startOver();
            int numberStart = NONE;
            int value = 0;
            for (int at = 0; at < text.length; at++) {
                int c = text.byteAt(at);
                if (c >= '0' && c <= '9') {
                    if (numberStart == NONE) {
                        if (state != BEHIND_PLUS_OR_MINUS) {
                            return at;
                        }
                        numberStart = at;
                        value = 0;
                    }
                    value = value * 10 + (c - '0');
                    if (value > 9999) {
                        return numberStart;
                    }
                } else {
                    if (numberStart != NONE) {
                        takeNumber(value);
                        numberStart = NONE;
                    }
                    if (c != ' ' && !takes(c)) {
                        return at;
                    }
                }
            }
            return state == CLOSED ? NONE : text.length;
        }

        private void startOver() {
            terms = 0;
            constant = 0;
            state = TEXT_START;
            sign = 1;
            letter = 0;
            lettersSeen = 0;
        }

        private void takeNumber(int value) {
            constant += sign * value;
            state = BEHIND_PART;
        }

        private boolean takes(int c) {
            switch (state) {
                case TEXT_START:
                case BEHIND_FIRST_MINUS:
                case BEHIND_PLUS_OR_MINUS:
                    return beginsForm(c);
                case BEHIND_EQUALS:
                    return c == '-' ? goesOn(-1, BEHIND_FIRST_MINUS) : beginsForm(c);
                case BEHIND_SLASH:
                    return takesLetter(c, 2, BEHIND_PART);
                case BEHIND_LETTER:
                    return c == '*' ? goesOn(sign, BEHIND_STAR) : followsPart(c);
                case BEHIND_STAR:
                    return squares(c);
                case BEHIND_PART:
                    return followsPart(c);
                default:
                    return false;
            }
        }

        private boolean goesOn(int nextSign, int nextState) {
            sign = nextSign;
            state = nextState;
            return true;
        }

        private boolean beginsForm(int c) {
            if (terms >= MOST_TERMS) {
                return false;
            }
            return c == '/' ? goesOn(sign, BEHIND_SLASH) : takesLetter(c, 0, BEHIND_LETTER);
        }

        private boolean takesLetter(int c, int kind, int nextState) {
            if (c < 'a' || c > 'z' || terms >= MOST_TERMS) {
                return false;
            }
            int bit = 1 << (c - 'a');
            if ((lettersSeen & bit) != 0) {
                return false;
            }
            lettersSeen |= bit;
            letter = c;
            kinds[terms] = kind;
            signs[terms] = sign;
            terms++;
            return goesOn(sign, nextState);
        }

        private boolean squares(int c) {
            if (c != letter || terms < 1 || terms > MOST_TERMS) {
                return false;
            }
            kinds[terms - 1] = 1;
            return goesOn(sign, BEHIND_PART);
        }

        private boolean followsPart(int c) {
            // With one TERM alone the = is still to come: behind it a second one always begins.
            if (terms == 1) {
                return c == '=' && goesOn(1, BEHIND_EQUALS);
            }
            if (c == '+') {
                return goesOn(1, BEHIND_PLUS_OR_MINUS);
            }
            if (c == '-') {
                return goesOn(-1, BEHIND_PLUS_OR_MINUS);
            }
            return c == ';' && terms >= FEWEST_TERMS && goesOn(1, CLOSED);
        }
    }

    /** TERMS with their KINDS and SIGNS, and the RANGES that were told of them. */
    private static final class Rule {
        private static final int SQUARED = 1;
        private static final int TURNED = 2;

        private final int terms;
        private final int constant;
        private final int[] kinds;
        private final int[] signs;
        private final int[] markCounts;
        private final int[][] marks;
        /** TERM 0's numbers rising, each once: what TENTHS are counted on. */
        private final int[] scale;
        private int scaleCount;

        private Rule(Parser parser) {
            terms = parser.terms;
            constant = parser.constant;
            kinds = parser.kinds.clone();
            signs = parser.signs.clone();
            markCounts = new int[MOST_TERMS];
            marks = new int[MOST_TERMS][MOST_MARKS];
            scale = new int[MOST_MARKS];
        }

        private boolean hasTerm(int term) {
            return term >= 0 && term < terms && term < MOST_TERMS;
        }

        private int kindOf(int term) {
            return hasTerm(term) ? kinds[term] : VOID;
        }

        private int signOf(int term) {
            return hasTerm(term) ? signs[term] : VOID;
        }

        private boolean canRange(int term, int from, int step, int many) {
            if (!hasTerm(term) || markCounts[term] != 0) {
                return false;
            }
            if (step < 1 || step > 500 || many < 2 || many > MOST_MARKS) {
                return false;
            }
            long last = from + (long) step * (many - 1);
            return from >= leastValue(kinds[term]) && last <= greatestValue(kinds[term]);
        }

        private void putRange(int term, int from, int step, int many) {
            if (!canRange(term, from, step, many)) {
                return;
            }
            for (int i = 0; i < many; i++) {
                marks[term][i] = numberOfValue(kinds[term], from + step * i);
                if (term == 0) {
                    putOnScale(marks[term][i]);
                }
            }
            markCounts[term] = many;
        }

        private void putOnScale(int number) {
            int place = 0;
            while (place < scaleCount && scale[place] < number) {
                place++;
            }
            if (scaleCount >= scale.length || place < scaleCount && scale[place] == number) {
                return;
            }
            for (int i = scaleCount; i > place; i--) {
                scale[i] = scale[i - 1];
            }
            scale[place] = number;
            scaleCount++;
        }

        private boolean hasAllRanges() {
            for (int term = 0; term < terms; term++) {
                if (markCounts[term] == 0) {
                    return false;
                }
            }
            return true;
        }

        private boolean hasMark(int term, int mark) {
            return hasTerm(term) && mark >= 0 && mark < markCounts[term];
        }

        private int numberOf(int term, int mark) {
            return hasMark(term, mark) ? marks[term][mark] : 0;
        }

        private int signedOf(int term, int mark) {
            return hasMark(term, mark) ? signs[term] * marks[term][mark] : 0;
        }

        private int lastMarkOf(int term) {
            return hasTerm(term) ? markCounts[term] - 1 : 0;
        }

        private int leastOf(int term) {
            int least = signedOf(term, 0);
            for (int mark = 1; mark <= lastMarkOf(term); mark++) {
                least = Math.min(least, signedOf(term, mark));
            }
            return least;
        }

        private int greatestOf(int term) {
            int greatest = signedOf(term, 0);
            for (int mark = 1; mark <= lastMarkOf(term); mark++) {
                greatest = Math.max(greatest, signedOf(term, mark));
            }
            return greatest;
        }

        /** Whether the digits name each TERM from 1 on just once. */
        private boolean isOrder(int digits) {
            int rest = digits;
            int seen = 0;
            for (int i = 1; i < terms; i++) {
                int term = rest % 10;
                if (term < 1 || term >= terms || (seen >> term & 1) == 1) {
                    return false;
                }
                seen |= 1 << term;
                rest /= 10;
            }
            return rest == 0;
        }

        private int tenthsOf(long f) {
            if (scaleCount < 1 || f < scale[0] || f > scale[scaleCount - 1]) {
                return NONE;
            }
            int place = 0;
            while (place + 1 < scaleCount && scale[place + 1] <= f) {
                place++;
            }
            if (place + 1 >= scaleCount) {
                return 10 * place;
            }
            int gap = scale[place + 1] - scale[place];
            return gap <= 0 ? 10 * place : 10 * place + (int) (10 * (f - scale[place]) / gap);
        }

        private static int numberOfValue(int kind, int value) {
            if (kind == SQUARED) {
                return value * value;
            }
            return kind == TURNED ? (int) nearest(10000, value) : value;
        }

        private static int leastValue(int kind) {
            if (kind == SQUARED) {
                return 0;
            }
            return kind == TURNED ? 1 : -999;
        }

        private static int greatestValue(int kind) {
            return kind == SQUARED ? 99 : 999;
        }
    }

    /** An ORDER of a RULE's TERMS, the MODULI of its PAGES, and its PAPER. */
    private static final class Chart {
        private final Rule rule;
        private final int number;
        private final int size;
        private final int pages;
        private final int wide;
        private final int[] order;
        private final int[] left;
        private final int[] right;
        /** Of each PAGE the least and the greatest sum that its left line can have. */
        private final long[] leastAhead;
        private final long[] greatestAhead;
        private final Paper paper;

        private Chart(Rule rule, int number, int wide) {
            this.rule = rule;
            this.number = number;
            this.wide = wide;
            size = Math.min(rule.terms - 1, MOST_IN_ORDER);
            pages = size - 1;
            order = new int[MOST_IN_ORDER];
            left = new int[MOST_PAGES];
            right = new int[MOST_PAGES];
            leastAhead = new long[MOST_IN_ORDER];
            greatestAhead = new long[MOST_IN_ORDER];
            paper = new Paper();
        }

        private void putOrder(int digits) {
            int rest = digits;
            for (int place = size - 1; place >= 0; place--) {
                order[place] = rest % 10;
                rest /= 10;
            }
            long least = 0;
            long greatest = 0;
            for (int place = 0; place < size; place++) {
                least += rule.leastOf(order[place]);
                greatest += rule.greatestOf(order[place]);
                leastAhead[place] = least;
                greatestAhead[place] = greatest;
            }
        }

        private void putModuli(int page, int moduli) {
            if (hasPage(page)) {
                left[page] = moduli / 100;
                right[page] = moduli % 100;
            }
        }

        private boolean hasPage(int page) {
            return page >= 0 && page < pages;
        }

        private boolean hasMarks(int marks) {
            if (marks < 0) {
                return false;
            }
            int rest = marks;
            for (int place = size - 1; place >= 0; place--) {
                if (!rule.hasMark(order[place], rest % 100)) {
                    return false;
                }
                rest /= 100;
            }
            return rest == 0;
        }

        private int markAt(int marks, int place) {
            int rest = marks;
            for (int p = size - 1; p > place; p--) {
                rest /= 100;
            }
            return rest % 100;
        }

        private long midOf(int page) {
            if (!hasPage(page) || left[page] + right[page] <= 0) {
                return 0;
            }
            return wide * left[page] / (left[page] + right[page]);
        }

        private long meets(int page, long a, long b) {
            return a + nearest((b - a) * midOf(page), wide);
        }

        private long sumAt(int page, long y) {
            if (!hasPage(page)) {
                return 0;
            }
            long l = left[page];
            long r = right[page];
            return nearest(y * (l + r), l * r);
        }

        /** The last SUM on flat paper, if the eye errs by as much and the same way on each PAGE. */
        private long lastSumOnFlat(long[] numbers, int error) {
            long sum = numbers.length > 0 ? numbers[0] : 0;
            for (int p = 0; p < pages && p + 1 < numbers.length; p++) {
                sum = sumAt(p, meets(p, left[p] * sum, right[p] * numbers[p + 1]) + error);
            }
            return sum;
        }

        /** TALL of a PAGE, if it had these MODULI: points rise with their numbers, so the ends tell. */
        private long tallWith(int page, int l, int r) {
            if (!hasPage(page)) {
                return 0;
            }
            long leastRight = rule.leastOf(order[page + 1]);
            long greatestRight = rule.greatestOf(order[page + 1]);
            long bottom = Math.min(l * leastAhead[page], r * leastRight);
            bottom = Math.min(bottom, middleOf(leastAhead[page + 1], l, r));
            long top = Math.max(l * greatestAhead[page], r * greatestRight);
            top = Math.max(top, middleOf(greatestAhead[page + 1], l, r));
            return top - bottom;
        }

        private static long middleOf(long number, long l, long r) {
            return nearest(number * l * r, l + r);
        }

        /**
         * LEFT * 100 + RIGHT of FINEST for one PAGE. No PAGE's TALL asks for another one's MODULI,
         * so each is chosen alone: the last one by fineness, the others as early as they FIT.
         */
        private int finestOf(int page, int high, int[] listed, int listedCount) {
            int bestLeft = 0;
            int bestRight = 0;
            int many = Math.min(listedCount, listed.length);
            for (int i = 0; i < many; i++) {
                for (int j = 0; j < many; j++) {
                    boolean better = bestLeft == 0
                            || page == pages - 1 && isFiner(listed[i], listed[j], bestLeft, bestRight);
                    if (better && tallWith(page, listed[i], listed[j]) <= high) {
                        bestLeft = listed[i];
                        bestRight = listed[j];
                    }
                }
            }
            return bestLeft == 0 ? NONE : bestLeft * 100 + bestRight;
        }

        private static boolean isFiner(int l, int r, int otherL, int otherR) {
            return l * r * (otherL + otherR) > otherL * otherR * (l + r);
        }
    }

    /** How a CHART's paper has swelled. */
    private static final class Paper {
        private int seam;
        private int low;
        private int up;

        private void put(int newSeam, int newLow, int newUp) {
            seam = newSeam;
            low = newLow;
            up = newUp;
        }

        private long lies(long y) {
            if (y <= seam) {
                return y + y * low / 1000;
            }
            long above = y - seam;
            return seam + (long) seam * low / 1000 + above + above * up / 1000;
        }

        /** Places never fall as y rises, so the greatest one not above y can be halved in on. */
        private long placeReadAt(long y) {
            // A point lies within a twentieth of itself and 3000 (both for the SEAM) of its flat place.
            long reach = Math.abs(y) / 10 + 5000;
            long under = y - reach;
            long over = y + reach;
            for (int i = 0; i < 64 && over - under > 1; i++) {
                long between = under + (over - under) / 2;
                if (lies(between) <= y) {
                    under = between;
                } else {
                    over = between;
                }
            }
            return under;
        }
    }

    /** A READING led from PAGE to PAGE on the paper as it lies; it keeps the last PAGE it came to. */
    private static final class Walk {
        private long left;
        private long right;
        private long meets;
        private long sum;

        private void along(Chart c, long[] numbers, int lastPage) {
            sum = numbers.length > 0 ? numbers[0] : 0;
            for (int p = 0; p <= lastPage && p < c.pages && p + 1 < numbers.length; p++) {
                left = c.paper.lies(c.left[p] * sum);
                right = c.paper.lies(c.right[p] * numbers[p + 1]);
                meets = c.meets(p, left, right);
                sum = c.sumAt(p, c.paper.placeReadAt(meets));
            }
        }
    }

    /** The MOVED MARKS in the order in which they were told, so that their days never fall. */
    private static final class Errata {
        private final int[] charts = new int[MOST_MOVED];
        private final int[] terms = new int[MOST_MOVED];
        private final int[] marks = new int[MOST_MOVED];
        private final int[] numbers = new int[MOST_MOVED];
        private final int[] days = new int[MOST_MOVED];
        private int count;

        private boolean isFull() {
            return count >= MOST_MOVED;
        }

        private void add(int chart, int term, int mark, int number, int day) {
            if (isFull()) {
                return;
            }
            charts[count] = chart;
            terms[count] = term;
            marks[count] = mark;
            numbers[count] = number;
            days[count] = day;
            count++;
        }

        private int numberOn(int day, int chart, int term, int mark) {
            for (int i = count - 1; i >= 0; i--) {
                if (days[i] <= day && charts[i] == chart && terms[i] == term && marks[i] == mark) {
                    return numbers[i];
                }
            }
            return VOID;
        }
    }

    /** The REPORTS, and what was DUE of each as far as nothing has changed it since. */
    private static final class Reports {
        private final int[] readers = new int[MOST_REPORTS];
        private final int[] charts = new int[MOST_REPORTS];
        private final int[] marks = new int[MOST_REPORTS];
        private final int[] tenths = new int[MOST_REPORTS];
        private final int[] days = new int[MOST_REPORTS];
        private final int[] dues = new int[MOST_REPORTS];
        private final int[] tally = new int[2 * FARTHEST_HABIT + 1];
        private int count;
        private int duesKnown;

        private boolean isFull() {
            return count >= MOST_REPORTS;
        }

        private boolean has(int report) {
            return report >= 0 && report < count;
        }

        private void forgetDues() {
            duesKnown = 0;
        }

        private void add(int reader, int chart, int readingMarks, int readTenths, int day) {
            if (isFull()) {
                return;
            }
            readers[count] = reader;
            charts[count] = chart;
            marks[count] = readingMarks;
            tenths[count] = readTenths;
            days[count] = day;
            count++;
        }

        private int habitOf(int reader) {
            Arrays.fill(tally, 0);
            for (int i = 0; i < count; i++) {
                int more = tenths[i] - dues[i];
                if (readers[i] == reader && dues[i] != NONE && Math.abs(more) <= FARTHEST_HABIT) {
                    tally[FARTHEST_HABIT + more]++;
                }
            }
            // From 0 outward and below 0 first: of like ones the first one met stays.
            int habit = 0;
            for (int far = 1; far <= FARTHEST_HABIT; far++) {
                if (tally[FARTHEST_HABIT - far] > tally[FARTHEST_HABIT + habit]) {
                    habit = -far;
                }
                if (tally[FARTHEST_HABIT + far] > tally[FARTHEST_HABIT + habit]) {
                    habit = far;
                }
            }
            return habit;
        }

        private boolean isBad(int report, int bound) {
            if (!has(report) || dues[report] == NONE) {
                return false;
            }
            int wanted = dues[report] + habitOf(readers[report]);
            return Math.abs(tenths[report] - wanted) > bound;
        }
    }

    /** Looks for SHARPEST through all ORDERS, the first ones first. */
    private static final class OrderSearch {
        private final int[] tried = new int[MOST_IN_ORDER];
        private final long[] numbers = new long[MOST_IN_ORDER];
        private int bestOrder;
        private long bestWidth;

        private void look(Chart c, int e) {
            for (int place = 0; place < c.size; place++) {
                tried[place] = place + 1;
            }
            bestOrder = NONE;
            bestWidth = 0;
            boolean more = true;
            for (int n = 0; n < MOST_ORDERS && more; n++) {
                long width = greatestWidth(c, e);
                if (bestOrder == NONE || width < bestWidth) {
                    bestOrder = digitsOfTried(c.size);
                    bestWidth = width;
                }
                more = goToNext(c.size);
            }
        }

        private long greatestWidth(Chart c, int e) {
            long greatest = 0;
            for (int ends = 0; ends < 1 << c.size; ends++) {
                for (int place = 0; place < c.size; place++) {
                    boolean isLast = (ends >> place & 1) == 1;
                    numbers[place] = c.rule.signedOf(tried[place], isLast ? c.rule.lastMarkOf(tried[place]) : 0);
                }
                long width = c.lastSumOnFlat(numbers, e) - c.lastSumOnFlat(numbers, -e);
                greatest = Math.max(greatest, width);
            }
            return greatest;
        }

        private int digitsOfTried(int size) {
            int digits = 0;
            for (int place = 0; place < size; place++) {
                digits = digits * 10 + tried[place];
            }
            return digits;
        }

        /** The next ORDER, compared TERM by TERM; false behind the last one. */
        private boolean goToNext(int size) {
            int turn = size - 2;
            while (turn >= 0 && tried[turn] > tried[turn + 1]) {
                turn--;
            }
            if (turn < 0) {
                return false;
            }
            int other = size - 1;
            while (other > turn && tried[other] < tried[turn]) {
                other--;
            }
            swap(turn, other);
            int low = turn + 1;
            for (int high = size - 1; low < high; high--) {
                swap(low, high);
                low++;
            }
            return true;
        }

        private void swap(int a, int b) {
            int kept = tried[a];
            tried[a] = tried[b];
            tried[b] = kept;
        }
    }

    /** Looks for the SUSPECTS among the MARKS of BAD and GOOD REPORTS of one CHART. */
    private static final class HeapSearch {
        private static final int IN_BAD = 1;
        private static final int IN_GOOD = 2;

        /** By TERM and MARK: where the MARK was seen; a GOOD REPORT outweighs all BAD ones. */
        private final int[] seen = new int[MOST_TERMS * MOST_MARKS];
        private final int[] badMarks = new int[MOST_REPORTS * MOST_IN_ORDER];
        private final int[] badHeaps = new int[MOST_REPORTS];
        private final int[] candidates = new int[MOST_CANDIDATES];
        private int badCount;
        private int candidateCount;
        private int fewest;
        private int ways;
        private int firstHeap;

        private void startOver() {
            Arrays.fill(seen, 0);
            badCount = 0;
        }

        private void add(Chart c, int marks, boolean bad) {
            if (bad && badCount >= MOST_REPORTS) {
                return;
            }
            for (int place = 0; place < c.size; place++) {
                int id = c.order[place] * MOST_MARKS + c.markAt(marks, place);
                if (id >= 0 && id < seen.length) {
                    seen[id] = bad ? Math.max(seen[id], IN_BAD) : IN_GOOD;
                }
                if (bad) {
                    badMarks[badCount * MOST_IN_ORDER + place] = id;
                }
            }
            if (bad) {
                badCount++;
            }
        }

        /** Whether there is a heap; then fewest, ways and firstHeap tell of the smallest ones. */
        private boolean look(int marksOfReading) {
            if (!findCandidates() || !weighBadOnes(marksOfReading)) {
                return false;
            }
            // The first candidate has the highest bit: of heaps as many the first one is the greatest number.
            fewest = candidateCount + 1;
            ways = 0;
            firstHeap = 0;
            for (int heap = (1 << candidateCount) - 1; heap >= 0; heap--) {
                int many = Integer.bitCount(heap);
                if (many <= fewest && hitsAllBadOnes(heap)) {
                    if (many < fewest) {
                        fewest = many;
                        ways = 0;
                        firstHeap = heap;
                    }
                    ways++;
                }
            }
            return ways > 0;
        }

        private boolean findCandidates() {
            candidateCount = 0;
            for (int id = 0; id < seen.length; id++) {
                if (seen[id] == IN_BAD) {
                    if (candidateCount >= MOST_CANDIDATES) {
                        return false;
                    }
                    candidates[candidateCount] = id;
                    candidateCount++;
                }
            }
            return true;
        }

        /** Gives each BAD REPORT the heap of all its candidates; false if one has none. */
        private boolean weighBadOnes(int marksOfReading) {
            for (int bad = 0; bad < badCount; bad++) {
                int heap = 0;
                for (int place = 0; place < marksOfReading && place < MOST_IN_ORDER; place++) {
                    heap |= bitOf(badMarks[bad * MOST_IN_ORDER + place]);
                }
                if (heap == 0) {
                    return false;
                }
                badHeaps[bad] = heap;
            }
            return true;
        }

        private int bitOf(int id) {
            for (int i = 0; i < candidateCount; i++) {
                if (candidates[i] == id) {
                    return 1 << (candidateCount - 1 - i);
                }
            }
            return 0;
        }

        private boolean hitsAllBadOnes(int heap) {
            for (int bad = 0; bad < badCount; bad++) {
                if ((badHeaps[bad] & heap) == 0) {
                    return false;
                }
            }
            return true;
        }

        /** TERM * 100 + MARK of the first heap's suspect at a place; NONE behind the last one. */
        private int suspectOfFirst(int place) {
            int before = 0;
            for (int i = 0; i < candidateCount; i++) {
                if ((firstHeap >> (candidateCount - 1 - i) & 1) == 1) {
                    if (before == place) {
                        return candidates[i] / MOST_MARKS * 100 + candidates[i] % MOST_MARKS;
                    }
                    before++;
                }
            }
            return NONE;
        }
    }
}
