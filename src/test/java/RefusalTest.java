import java.util.ArrayList;
import java.util.List;

/** What is refused changes nothing: a full house answers the same before and behind each refused call. */
public final class RefusalTest {
    private static final int LEAST = Integer.MIN_VALUE;
    private static final int GREATEST = Integer.MAX_VALUE;
    private static final Checks checks = new Checks();

    private interface Call {
        long on(ThreadCharts x);
    }

    public static void main(String[] args) {
        ThreadCharts x = house();
        List<Long> before = look(x);
        refuse(x, before, "feed", t -> t.feed(0, 0, 0, 0, 0));
        refuse(x, before, "rule", ThreadCharts::rule);
        int[] wrong = {LEAST, -100000, -1, 400, 30001, 2000000000, GREATEST};
        for (int n : wrong) {
            refuseWith(x, before, n);
        }
        checks.close();
    }

    private static void refuse(ThreadCharts x, List<Long> before, String name, Call call) {
        long got = call.on(x);
        checks.due(name + " is refused", got == 0 || got == Checks.NONE || got == Checks.VOID, true);
        List<Long> after = look(x);
        for (int i = 0; i < before.size(); i++) {
            checks.due("answer " + i + " behind " + name, after.get(i), before.get(i));
        }
    }

    /** Each argument in its turn is one that can't be; the others could be. */
    private static void refuseWith(ThreadCharts x, List<Long> before, int n) {
        refuse(x, before, "end " + n, t -> t.end(n) ? 1 : 0);
        refuse(x, before, "told rule " + n, t -> t.told(n, 0));
        refuse(x, before, "told what " + n, t -> t.told(0, n));
        refuse(x, before, "range rule " + n, t -> t.range(n, 1, 0, 1, 5));
        refuse(x, before, "range term " + n, t -> t.range(1, n, 0, 1, 5));
        refuse(x, before, "range from " + n, t -> t.range(1, 1, n == -1 ? 1000 : n == 400 ? -1000 : n, 1, 5));
        refuse(x, before, "range step " + n, t -> t.range(1, 1, 0, n == 400 ? 501 : n, 5));
        refuse(x, before, "range many " + n, t -> t.range(1, 1, 0, 1, n));
        refuse(x, before, "mark rule " + n, t -> t.mark(n, 1, 1));
        refuse(x, before, "mark term " + n, t -> t.mark(0, n, 1));
        refuse(x, before, "mark " + n, t -> t.mark(0, 1, n));
        refuse(x, before, "chart rule " + n, t -> t.chart(n, 12, 100, 1010, 0, 0));
        refuse(x, before, "chart order " + n, t -> t.chart(0, n, 100, 1010, 0, 0));
        refuse(x, before, "chart wide " + n, t -> t.chart(0, 12, n == 400 ? 1001 : n, 1010, 0, 0));
        refuse(x, before, "chart first " + n, t -> t.chart(0, 12, 100, n, 0, 0));
        refuse(x, before, "chart second " + n, t -> t.chart(0, 12, 100, 1010, n, 0));
        refuse(x, before, "chart third " + n, t -> t.chart(0, 12, 100, 1010, 0, n));
        refuse(x, before, "chart of a rule without ranges", t -> t.chart(1, 12, 100, 1010, 0, 0));
        refuse(x, before, "reading chart " + n, t -> t.reading(n, 0) ? 1 : 0);
        refuse(x, before, "reading marks " + n, t -> t.reading(0, n == 400 ? 4000 : n) ? 1 : 0);
        refuse(x, before, "read day " + n, t -> t.read(n, 0));
        refuse(x, before, "read what " + n, t -> t.read(0, n));
        refuse(x, before, "lead page " + n, t -> t.lead(n, 0));
        refuse(x, before, "lead what " + n, t -> t.lead(0, n));
        refuse(x, before, "span " + n, t -> t.span(n, true));
        refuse(x, before, "page chart " + n, t -> t.page(n, 0, 0));
        refuse(x, before, "page " + n, t -> t.page(0, n, 0));
        refuse(x, before, "page what " + n, t -> t.page(0, 0, n));
        refuse(x, before, "sharpest chart " + n, t -> t.sharpest(n, 0, 0));
        refuse(x, before, "sharpest eye " + n, t -> t.sharpest(0, n, 0));
        refuse(x, before, "sharpest what " + n, t -> t.sharpest(0, 0, n));
        refuse(x, before, "list " + n, t -> t.list(n));
        refuse(x, before, "list of one that is there", t -> t.list(10));
        refuse(x, before, "finest chart " + n, t -> t.finest(n, 400, 0));
        refuse(x, before, "finest high " + n, t -> t.finest(0, n == 400 ? 9 : n, 0));
        refuse(x, before, "finest page " + n, t -> t.finest(0, 400, n));
        refuse(x, before, "paper chart " + n, t -> t.paper(n, 1, 1, 1) ? 1 : 0);
        refuse(x, before, "paper seam " + n, t -> t.paper(0, n == -1 || n == 400 ? -30001 : n, 1, 1) ? 1 : 0);
        refuse(x, before, "paper low " + n, t -> t.paper(0, 1, n == -1 ? -51 : n, 1) ? 1 : 0);
        refuse(x, before, "paper up " + n, t -> t.paper(0, 1, 1, n == -1 ? -51 : n) ? 1 : 0);
        refuse(x, before, "swelled chart " + n, t -> t.swelled(n, 0, true));
        refuse(x, before, "swelled y " + n, t -> t.swelled(0, n > -100000 && n < 100000 ? 100001 : n - 1 < 0 ? n - 1 : n, true));
        refuse(x, before, "go " + n, t -> t.go(n));
        refuse(x, before, "move chart " + n, t -> t.move(n, 1, 1, 1));
        refuse(x, before, "move term " + n, t -> t.move(0, n, 1, 1));
        refuse(x, before, "move mark " + n, t -> t.move(0, 1, n, 1));
        refuse(x, before, "move number " + n, t -> t.move(0, 1, 1, n > -100000 && n < 100000 ? 100000 : n));
        refuse(x, before, "report reader " + n, t -> t.report(n, 1));
        refuse(x, before, "report tenths " + n, t -> t.report(1, n));
        refuse(x, before, "due report " + n, t -> t.due(n, 5, 0));
        refuse(x, before, "due bound " + n, t -> t.due(0, n, 0));
        refuse(x, before, "due what " + n, t -> t.due(0, 5, n));
        refuse(x, before, "habit " + n, t -> t.habit(n));
        refuse(x, before, "suspects chart " + n, t -> t.suspects(n, 5, 0));
        refuse(x, before, "suspects bound " + n, t -> t.suspects(0, n, 0));
        refuse(x, before, "suspects what " + n, t -> t.suspects(0, 5, n));
        refuse(x, before, "count " + n, t -> t.count(n));
    }

    private static ThreadCharts house() {
        ThreadCharts x = Checks.plainHouse();
        Checks.tell(x, "c = a - b - 7;");
        x.rule();
        x.range(1, 0, 3, 1, 9);
        x.list(10);
        x.list(20);
        x.paper(0, 50, 20, -30);
        x.go(4);
        x.move(0, 1, 3, 14);
        for (int i = 1; i < 9; i++) {
            x.reading(0, i * 101);
            x.report(i % 3, x.read(4, 1) + (i == 5 ? 40 : 3));
        }
        Checks.tell(x, "c = a + b + " + "7".repeat(90));
        return x;
    }

    private static List<Long> look(ThreadCharts x) {
        List<Long> all = new ArrayList<>();
        for (int i = 0; i < 8; i++) {
            all.add((long) x.count(i));
            all.add((long) x.habit(i));
            all.add((long) x.due(i, 5, 0));
            all.add((long) x.due(i, 5, 1));
            all.add((long) x.suspects(0, 5, i));
            all.add((long) x.read(i, 0));
            all.add((long) x.lead(0, i));
        }
        for (int t = 0; t < 4; t++) {
            for (int m = 0; m < 42; m++) {
                all.add((long) x.mark(0, t, m));
                all.add((long) x.mark(1, t, m));
            }
        }
        for (int y = -200; y <= 200; y += 50) {
            all.add((long) x.swelled(0, y, false));
            all.add((long) x.swelled(0, y, true));
        }
        for (int c = 0; c < 2; c++) {
            all.add((long) x.page(c, 0, 0));
            all.add((long) x.page(c, 0, 1));
            all.add((long) x.sharpest(c, 5, 0));
            all.add((long) x.finest(c, 400, 0));
        }
        all.add((long) x.fault());
        all.add((long) x.span(5, true));
        return all;
    }
}
