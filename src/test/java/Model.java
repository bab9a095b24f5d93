import java.math.BigInteger;
import java.util.ArrayList;
import java.util.Collections;
import java.util.HashSet;
import java.util.List;
import java.util.Set;
import java.util.TreeSet;

/**
 * The document once more, told in another way: everything is tried out and counted, nothing is kept
 * or shortened. ModelTest compares it with the class.
 */
final class Model {
    static final int NONE = -1;
    static final int VOID = Integer.MIN_VALUE;

    private record Term(int kind, int sign, List<Integer> marks) { }

    private record Token(int place, char sort, BigInteger value) { }

    private record Moved(int chart, int term, int mark, int number, int day) { }

    private record Report(int reader, int chart, List<Integer> marks, int tenths, int day) { }

    private static final class Rule {
        final List<Term> terms = new ArrayList<>();
        int constant;
    }

    private static final class Chart {
        Rule rule;
        final List<Integer> order = new ArrayList<>();
        final List<int[]> moduli = new ArrayList<>();
        int wide;
        int seam;
        int low;
        int up;
    }

    private static final class Fault extends Exception {
        private static final long serialVersionUID = 1;
        final int place;

        Fault(int place) {
            this.place = place;
        }
    }

    private String text = "";
    private final List<Rule> rules = new ArrayList<>();
    private final List<Chart> charts = new ArrayList<>();
    private final List<Integer> moduli = new ArrayList<>();
    private final List<Moved> moved = new ArrayList<>();
    private final List<Report> reports = new ArrayList<>();
    private int now;
    private int readingChart = NONE;
    private List<Integer> readingMarks;

    // ---- the TEXT

    int feed(int... five) {
        if (text.length() > 100) {
            return NONE;
        }
        StringBuilder b = new StringBuilder(text);
        for (int n : five) {
            b.append((char) (n >>> 24)).append((char) (n >>> 16 & 255)).append((char) (n >>> 8 & 255)).append((char) (n & 255));
        }
        text = b.toString();
        return text.length();
    }

    boolean end(int n) {
        if (n < 0 || n > text.length()) {
            return false;
        }
        text = text.substring(0, n);
        return true;
    }

    int fault() {
        try {
            parse();
            return NONE;
        } catch (Fault f) {
            return f.place;
        }
    }

    int rule() {
        try {
            Rule r = parse();
            if (rules.size() == 6) {
                return NONE;
            }
            rules.add(r);
            text = "";
            return rules.size() - 1;
        } catch (Fault f) {
            return NONE;
        }
    }

    /** All TOKENS; '?' for a byte that begins none, '$' for the end. */
    private List<Token> tokens() {
        List<Token> all = new ArrayList<>();
        int at = 0;
        while (at < text.length()) {
            char c = text.charAt(at);
            int end = at + 1;
            if (Character.isDigit(c) && c < 128) {
                while (end < text.length() && text.charAt(end) >= '0' && text.charAt(end) <= '9') {
                    end++;
                }
                all.add(new Token(at, '9', new BigInteger(text.substring(at, end))));
            } else if ("abcdefghijklmnopqrstuvwxyz=+-*/;".indexOf(c) >= 0) {
                all.add(new Token(at, c, null));
            } else if (c != ' ') {
                all.add(new Token(at, '?', null));
            }
            at = end;
        }
        all.add(new Token(text.length(), '$', null));
        return all;
    }

    private Rule parse() throws Fault {
        List<Token> t = tokens();
        int[] at = {0};
        Rule r = new Rule();
        Set<Character> letters = new HashSet<>();
        form(t, at, r, letters, 1);
        expect(t, at, '=');
        int sign = 1;
        if (t.get(at[0]).sort == '-') {
            at[0]++;
            sign = -1;
        }
        form(t, at, r, letters, sign);
        while (t.get(at[0]).sort == '+' || t.get(at[0]).sort == '-') {
            sign = t.get(at[0]).sort == '+' ? 1 : -1;
            at[0]++;
            Token next = t.get(at[0]);
            if (next.sort == '9') {
                if (next.value.compareTo(BigInteger.valueOf(9999)) > 0) {
                    throw new Fault(next.place);
                }
                r.constant += sign * next.value.intValue();
                at[0]++;
            } else {
                if (r.terms.size() == 5) {
                    throw new Fault(next.place);
                }
                form(t, at, r, letters, sign);
            }
        }
        if (r.terms.size() < 3) {
            throw new Fault(t.get(at[0]).place);
        }
        expect(t, at, ';');
        expect(t, at, '$');
        return r;
    }

    private void expect(List<Token> t, int[] at, char sort) throws Fault {
        if (t.get(at[0]).sort != sort) {
            throw new Fault(t.get(at[0]).place);
        }
        at[0]++;
    }

    private void form(List<Token> t, int[] at, Rule r, Set<Character> letters, int sign) throws Fault {
        int kind = 0;
        if (t.get(at[0]).sort == '/') {
            kind = 2;
            at[0]++;
        }
        Token letter = t.get(at[0]);
        if (letter.sort < 'a' || letter.sort > 'z' || !letters.add(letter.sort)) {
            throw new Fault(letter.place);
        }
        at[0]++;
        if (kind == 0 && t.get(at[0]).sort == '*') {
            at[0]++;
            expect(t, at, letter.sort);
            kind = 1;
        }
        r.terms.add(new Term(kind, sign, new ArrayList<>()));
    }

    // ---- RULES

    private static boolean in(int n, int least, int greatest) {
        return n >= least && n <= greatest;
    }

    private static <T> T get(List<T> list, int n) {
        return n >= 0 && n < list.size() ? list.get(n) : null;
    }

    private Term term(int rule, int term) {
        Rule r = get(rules, rule);
        return r == null ? null : get(r.terms, term);
    }

    int told(int rule, int what) {
        Rule r = get(rules, rule);
        if (r == null) {
            return VOID;
        }
        if (what == 0) {
            return r.terms.size();
        }
        if (what == 1) {
            return r.constant;
        }
        for (int t = 0; t < r.terms.size(); t++) {
            if (what == 10 + t) {
                return r.terms.get(t).kind;
            }
            if (what == 20 + t) {
                return r.terms.get(t).sign;
            }
        }
        return VOID;
    }

    /** The whole number nearest to a by b; of two the greater one. */
    private static long nearest(long a, long b) {
        long below = Math.floorDiv(a, b);
        long toBelow = a - below * b;
        long toAbove = (below + 1) * b - a;
        return toAbove <= toBelow ? below + 1 : below;
    }

    int range(int rule, int term, int from, int step, int many) {
        Term t = term(rule, term);
        if (t == null || !t.marks.isEmpty() || !in(step, 1, 500) || !in(many, 2, 40)) {
            return NONE;
        }
        List<Integer> fs = new ArrayList<>();
        for (int i = 0; i < many; i++) {
            long v = from + (long) step * i;
            boolean can = t.kind == 0 ? v >= -999 && v <= 999 : t.kind == 1 ? v >= 0 && v <= 99 : v >= 1 && v <= 999;
            if (!can) {
                return NONE;
            }
            fs.add((int) (t.kind == 0 ? v : t.kind == 1 ? v * v : nearest(10000, v)));
        }
        t.marks.addAll(fs);
        return many;
    }

    int mark(int rule, int term, int mark) {
        Term t = term(rule, term);
        Integer f = t == null ? null : get(t.marks, mark);
        return f == null ? VOID : f;
    }

    // ---- CHARTS

    int chart(int rule, int order, int wide, int first, int second, int third) {
        Rule r = get(rules, rule);
        if (r == null || charts.size() == 6 || !in(wide, 10, 1000)) {
            return NONE;
        }
        for (Term t : r.terms) {
            if (t.marks.isEmpty()) {
                return NONE;
            }
        }
        Chart c = new Chart();
        c.rule = r;
        c.wide = wide;
        for (char digit : Integer.toString(order).toCharArray()) {
            c.order.add(digit - '0');
        }
        List<Integer> sorted = new ArrayList<>(c.order);
        Collections.sort(sorted);
        List<Integer> all = new ArrayList<>();
        for (int t = 1; t < r.terms.size(); t++) {
            all.add(t);
        }
        if (!sorted.equals(all)) {
            return NONE;
        }
        int[] three = {first, second, third};
        for (int p = 0; p < 3; p++) {
            if (p >= all.size() - 1) {
                if (three[p] != 0) {
                    return NONE;
                }
            } else {
                if (three[p] < 0 || !in(three[p] / 100, 1, 50) || !in(three[p] % 100, 1, 50)) {
                    return NONE;
                }
                c.moduli.add(new int[] {three[p] / 100, three[p] % 100});
            }
        }
        charts.add(c);
        return charts.size() - 1;
    }

    boolean reading(int chart, int marks) {
        Chart c = get(charts, chart);
        if (c == null || marks < 0) {
            return false;
        }
        String digits = Integer.toString(marks);
        while (digits.length() < 2 * c.order.size()) {
            digits = "0" + digits;
        }
        if (digits.length() > 2 * c.order.size()) {
            return false;
        }
        List<Integer> told = new ArrayList<>();
        for (int i = 0; i < c.order.size(); i++) {
            int m = Integer.parseInt(digits.substring(2 * i, 2 * i + 2));
            if (m >= c.rule.terms.get(c.order.get(i)).marks.size()) {
                return false;
            }
            told.add(m);
        }
        readingChart = chart;
        readingMarks = told;
        return true;
    }

    private static long signed(Rule r, int term, int mark) {
        return (long) r.terms.get(term).sign * r.terms.get(term).marks.get(mark);
    }

    private long known(int chart, int term, int mark, int day) {
        long number = signed(charts.get(chart).rule, term, mark);
        for (Moved m : moved) {
            if (m.chart == chart && m.term == term && m.mark == mark && m.day <= day) {
                number = m.number;
            }
        }
        return number;
    }

    private static long lies(Chart c, long y) {
        if (y <= c.seam) {
            return y + y * c.low / 1000;
        }
        return lies(c, c.seam) + (y - c.seam) + (y - c.seam) * c.up / 1000;
    }

    /** Near it by going on by what is still missing, then step by step. */
    private static long placeRead(Chart c, long y) {
        long p = y;
        for (int i = 0; i < 12; i++) {
            p += y - lies(c, p);
        }
        while (lies(c, p) > y) {
            p--;
        }
        while (lies(c, p + 1) <= y) {
            p++;
        }
        return p;
    }

    private static long mid(Chart c, int p) {
        return (long) c.wide * c.moduli.get(p)[0] / (c.moduli.get(p)[0] + c.moduli.get(p)[1]);
    }

    /** Of each PAGE: left, right, meets, SUM. */
    private List<long[]> led(int chart, List<Integer> marks, int day) {
        Chart c = charts.get(chart);
        List<long[]> pages = new ArrayList<>();
        for (int p = 0; p < c.moduli.size(); p++) {
            long l = c.moduli.get(p)[0];
            long r = c.moduli.get(p)[1];
            long ahead = p == 0 ? known(chart, c.order.get(0), marks.get(0), day) : pages.get(p - 1)[3];
            long a = lies(c, l * ahead);
            long b = lies(c, r * known(chart, c.order.get(p + 1), marks.get(p + 1), day));
            long y = a + nearest((b - a) * mid(c, p), c.wide);
            pages.add(new long[] {a, b, y, nearest(placeRead(c, y) * (l + r), l * r)});
        }
        return pages;
    }

    private long readOf(int chart, List<Integer> marks, int day) {
        List<long[]> pages = led(chart, marks, day);
        return pages.get(pages.size() - 1)[3] + charts.get(chart).rule.constant;
    }

    private static int tenths(Rule r, long f) {
        List<Integer> rising = new ArrayList<>(new TreeSet<>(r.terms.get(0).marks));
        for (int i = rising.size() - 1; i >= 0; i--) {
            if (rising.get(i) == f) {
                return 10 * i;
            }
            if (rising.get(i) < f) {
                return i == rising.size() - 1 ? NONE
                        : 10 * i + (int) (10 * (f - rising.get(i)) / (rising.get(i + 1) - rising.get(i)));
            }
        }
        return NONE;
    }

    int read(int day, int what) {
        if (readingChart == NONE || !in(day, 0, now) || !in(what, 0, 2)) {
            return VOID;
        }
        Chart c = charts.get(readingChart);
        if (what == 2) {
            long sum = c.rule.constant;
            for (int i = 0; i < readingMarks.size(); i++) {
                sum += signed(c.rule, c.order.get(i), readingMarks.get(i));
            }
            return (int) sum;
        }
        long read = readOf(readingChart, readingMarks, day);
        return what == 0 ? (int) read : tenths(c.rule, read);
    }

    int lead(int page, int what) {
        if (readingChart == NONE || !in(what, 0, 3)) {
            return VOID;
        }
        long[] p = get(led(readingChart, readingMarks, now), page);
        return p == null ? VOID : (int) p[what];
    }

    private static long[] spanOf(Chart c, List<Long> numbers, int e) {
        long least = numbers.get(0);
        long greatest = numbers.get(0);
        for (int p = 0; p < c.moduli.size(); p++) {
            long l = c.moduli.get(p)[0];
            long r = c.moduli.get(p)[1];
            long b = r * numbers.get(p + 1);
            long low = l * least + nearest((b - l * least) * mid(c, p), c.wide) - e;
            long high = l * greatest + nearest((b - l * greatest) * mid(c, p), c.wide) + e;
            least = nearest(low * (l + r), l * r);
            greatest = nearest(high * (l + r), l * r);
        }
        return new long[] {least, greatest};
    }

    int span(int e, boolean greatest) {
        if (readingChart == NONE || !in(e, 0, 50)) {
            return VOID;
        }
        Chart c = charts.get(readingChart);
        List<Long> numbers = new ArrayList<>();
        for (int i = 0; i < readingMarks.size(); i++) {
            numbers.add(signed(c.rule, c.order.get(i), readingMarks.get(i)));
        }
        return (int) spanOf(c, numbers, e)[greatest ? 1 : 0];
    }

    /** All sums of the TERMS of the first places of the ORDER. */
    private static Set<Long> sums(Chart c, int places) {
        Set<Long> all = new TreeSet<>(List.of(0L));
        for (int i = 0; i < places; i++) {
            Set<Long> more = new TreeSet<>();
            int term = c.order.get(i);
            for (long s : all) {
                for (int m = 0; m < c.rule.terms.get(term).marks.size(); m++) {
                    more.add(s + signed(c.rule, term, m));
                }
            }
            all = more;
            if (i > 0) {
                // Of sums of several TERMS the least and the greatest alone are asked for.
                all = new TreeSet<>();
                all.add(Collections.min(more));
                all.add(Collections.max(more));
            }
        }
        return all;
    }

    private static long tall(Chart c, int page, long l, long r) {
        List<Long> points = new ArrayList<>();
        for (long s : sums(c, page + 1)) {
            points.add(l * s);
        }
        int right = c.order.get(page + 1);
        for (int m = 0; m < c.rule.terms.get(right).marks.size(); m++) {
            points.add(r * signed(c.rule, right, m));
        }
        for (long s : sums(c, page + 2)) {
            points.add(nearest(s * l * r, l + r));
        }
        return Collections.max(points) - Collections.min(points);
    }

    int page(int chart, int page, int what) {
        Chart c = get(charts, chart);
        int[] m = c == null ? null : get(c.moduli, page);
        if (m == null || !in(what, 0, 1)) {
            return NONE;
        }
        return (int) (what == 0 ? mid(c, page) : tall(c, page, m[0], m[1]));
    }

    private static void orders(List<Integer> begun, int size, List<List<Integer>> all) {
        if (begun.size() == size) {
            all.add(new ArrayList<>(begun));
        }
        for (int t = 1; t <= size; t++) {
            if (!begun.contains(t)) {
                begun.add(t);
                orders(begun, size, all);
                begun.remove(begun.size() - 1);
            }
        }
    }

    int sharpest(int chart, int e, int what) {
        Chart c = get(charts, chart);
        if (c == null || !in(e, 0, 50) || !in(what, 0, 1)) {
            return NONE;
        }
        List<List<Integer>> all = new ArrayList<>();
        orders(new ArrayList<>(), c.order.size(), all);
        long best = Long.MAX_VALUE;
        int bestOrder = NONE;
        for (List<Integer> order : all) {
            long widest = 0;
            List<List<Long>> readings = new ArrayList<>(List.of(List.of()));
            for (int term : order) {
                List<List<Long>> longer = new ArrayList<>();
                for (List<Long> begun : readings) {
                    for (int m : new int[] {0, c.rule.terms.get(term).marks.size() - 1}) {
                        List<Long> next = new ArrayList<>(begun);
                        next.add(signed(c.rule, term, m));
                        longer.add(next);
                    }
                }
                readings = longer;
            }
            for (List<Long> numbers : readings) {
                long[] s = spanOf(c, numbers, e);
                widest = Math.max(widest, s[1] - s[0]);
            }
            if (widest < best) {
                best = widest;
                bestOrder = 0;
                for (int t : order) {
                    bestOrder = bestOrder * 10 + t;
                }
            }
        }
        return what == 0 ? bestOrder : (int) best;
    }

    // ---- the LIST

    int list(int modulus) {
        if (!in(modulus, 1, 50) || moduli.contains(modulus) || moduli.size() == 4) {
            return NONE;
        }
        moduli.add(modulus);
        return moduli.size();
    }

    int clear() {
        int n = moduli.size();
        moduli.clear();
        return n;
    }

    int finest(int chart, int high, int page) {
        Chart c = get(charts, chart);
        if (c == null || !in(page, 0, c.moduli.size() - 1) || !in(high, 10, 30000) || moduli.isEmpty()) {
            return NONE;
        }
        int pages = c.moduli.size();
        int n = moduli.size();
        boolean[][] fits = new boolean[pages][n * n];
        for (int p = 0; p < pages; p++) {
            for (int k = 0; k < n * n; k++) {
                fits[p][k] = tall(c, p, moduli.get(k / n), moduli.get(k % n)) <= high;
            }
        }
        // All choices for all PAGES, the first ones first.
        int all = (int) Math.round(Math.pow(n * n, pages));
        int best = NONE;
        long bestTop = 0;
        long bestUnder = 1;
        for (int choice = 0; choice < all; choice++) {
            boolean ok = true;
            for (int p = 0; p < pages; p++) {
                ok &= fits[p][pick(choice, p, pages, n)];
            }
            int last = pick(choice, pages - 1, pages, n);
            long l = moduli.get(last / n);
            long r = moduli.get(last % n);
            if (ok && l * r * bestUnder > bestTop * (l + r)) {
                bestTop = l * r;
                bestUnder = l + r;
                best = choice;
            }
        }
        if (best == NONE) {
            return NONE;
        }
        int k = pick(best, page, pages, n);
        return moduli.get(k / n) * 100 + moduli.get(k % n);
    }

    private static int pick(int choice, int page, int pages, int n) {
        for (int p = pages - 1; p > page; p--) {
            choice /= n * n;
        }
        return choice % (n * n);
    }

    // ---- PAPER and errata

    boolean paper(int chart, int seam, int low, int up) {
        Chart c = get(charts, chart);
        if (c == null || !in(seam, -30000, 30000) || !in(low, -50, 50) || !in(up, -50, 50)) {
            return false;
        }
        c.seam = seam;
        c.low = low;
        c.up = up;
        return true;
    }

    int swelled(int chart, int y, boolean back) {
        Chart c = get(charts, chart);
        if (c == null || !in(y, -100000, 100000)) {
            return VOID;
        }
        return (int) (back ? placeRead(c, y) : lies(c, y));
    }

    int go(int n) {
        if (!in(n, 0, 50)) {
            return NONE;
        }
        for (int i = 0; i < n && now < 300; i++) {
            now++;
        }
        return now;
    }

    int move(int chart, int term, int mark, int number) {
        Chart c = get(charts, chart);
        if (c == null || !c.order.contains(term) || get(c.rule.terms.get(term).marks, mark) == null
                || !in(number, -99999, 99999) || moved.size() == 40) {
            return NONE;
        }
        moved.add(new Moved(chart, term, mark, number, now));
        return moved.size();
    }

    // ---- REPORTS

    int report(int reader, int tenths) {
        if (readingChart == NONE || !in(reader, 0, 7) || !in(tenths, 0, 399) || reports.size() == 60) {
            return NONE;
        }
        reports.add(new Report(reader, readingChart, readingMarks, tenths, now));
        return reports.size();
    }

    private int dueOf(Report r) {
        return tenths(charts.get(r.chart).rule, readOf(r.chart, r.marks, r.day));
    }

    int habit(int reader) {
        if (!in(reader, 0, 7)) {
            return VOID;
        }
        List<Integer> mores = new ArrayList<>();
        for (Report r : reports) {
            int due = r.reader == reader ? dueOf(r) : NONE;
            if (due != NONE) {
                mores.add(r.tenths - due);
            }
        }
        int best = 0;
        for (int h : new int[] {0, -1, 1, -2, 2, -3, 3, -4, 4, -5, 5, -6, 6, -7, 7, -8, 8, -9, 9}) {
            if (Collections.frequency(mores, h) > Collections.frequency(mores, best)) {
                best = h;
            }
        }
        return best;
    }

    /** 1 BAD, 0 GOOD, NONE neither. */
    private int judged(Report r, int habit, int bound) {
        int due = dueOf(r);
        if (due == NONE) {
            return NONE;
        }
        return Math.abs(r.tenths - due - habit) > bound ? 1 : 0;
    }

    int due(int report, int bound, int what) {
        Report r = get(reports, report);
        if (r == null || !in(bound, 0, 20) || !in(what, 0, 1)) {
            return VOID;
        }
        return what == 0 ? dueOf(r) : judged(r, habit(r.reader), bound) == 1 ? 1 : 0;
    }

    int suspects(int chart, int bound, int what) {
        Chart c = get(charts, chart);
        if (c == null || !in(bound, 0, 20) || what < 0) {
            return NONE;
        }
        List<Integer> habits = new ArrayList<>();
        for (int reader = 0; reader < 8; reader++) {
            habits.add(habit(reader));
        }
        List<Set<Integer>> bad = new ArrayList<>();
        Set<Integer> good = new TreeSet<>();
        Set<Integer> inBad = new TreeSet<>();
        for (Report r : reports) {
            if (r.chart == chart) {
                Set<Integer> marks = new TreeSet<>();
                for (int i = 0; i < r.marks.size(); i++) {
                    marks.add(c.order.get(i) * 100 + r.marks.get(i));
                }
                int judged = judged(r, habits.get(r.reader), bound);
                if (judged == 1) {
                    bad.add(marks);
                    inBad.addAll(marks);
                } else if (judged == 0) {
                    good.addAll(marks);
                }
            }
        }
        inBad.removeAll(good);
        if (inBad.size() > 12) {
            return NONE;
        }
        List<Integer> candidates = new ArrayList<>(inBad);
        for (int size = 0; size <= candidates.size(); size++) {
            List<List<Integer>> heaps = new ArrayList<>();
            heapsOf(candidates, 0, size, new ArrayList<>(), bad, heaps);
            if (!heaps.isEmpty()) {
                Integer suspect = get(heaps.get(0), what - 2);
                return what == 0 ? size : what == 1 ? heaps.size() - 1 : suspect == null ? NONE : suspect;
            }
        }
        return NONE;
    }

    private static void heapsOf(List<Integer> candidates, int from, int size, List<Integer> begun,
            List<Set<Integer>> bad, List<List<Integer>> heaps) {
        if (begun.size() == size) {
            for (Set<Integer> b : bad) {
                if (Collections.disjoint(b, begun)) {
                    return;
                }
            }
            heaps.add(new ArrayList<>(begun));
            return;
        }
        for (int i = from; i < candidates.size(); i++) {
            begun.add(candidates.get(i));
            heapsOf(candidates, i + 1, size, begun, bad, heaps);
            begun.remove(begun.size() - 1);
        }
    }

    int count(int what) {
        int[] all = {now, rules.size(), charts.size(), moved.size(), reports.size(), moduli.size(), text.length(), readingChart};
        return in(what, 0, 7) ? all[what] : NONE;
    }
}
