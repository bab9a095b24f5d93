import java.util.ArrayList;
import java.util.List;

/** What is refused changes nothing, however much of it comes: many wrong calls one behind the other to one house. */
public final class RefusalTest {
    private static final int LEAST = Integer.MIN_VALUE;
    private static final int GREATEST = Integer.MAX_VALUE;
    private static final Checks checks = new Checks();

    /** The house that is asked, and the calls that it did not refuse. */
    private final ThreadCharts x;
    private final List<String> taken = new ArrayList<>();

    private RefusalTest(ThreadCharts x) {
        this.x = x;
    }

    public static void main(String[] args) {
        for (int n : new int[] {LEAST, LEAST + 1, -100001, -1, 100001, 2000000000, GREATEST}) {
            RefusalTest open = new RefusalTest(Houses.open());
            open.wrongTexts(n);
            open.wrongRules(n);
            open.wrongReadings(n);
            open.wrongCharts(n);
            open.wrongReports(n);
            open.compare("with " + n, Houses.open());
        }
        RefusalTest full = new RefusalTest(Houses.brimful());
        full.tooMany();
        full.compare("in a full house", Houses.brimful());
        checks.close();
    }

    private void refused(String name, long got) {
        if (got != 0 && got != Checks.NONE && got != Checks.VOID) {
            taken.add(name);
        }
    }

    private void refused(String name, boolean got) {
        refused(name, got ? 1 : 0);
    }

    private void compare(String name, ThreadCharts untouched) {
        for (String call : taken) {
            checks.due(name + ": " + call + " is taken", true, false);
        }
        List<String> due = Look.at(untouched);
        List<String> seen = Look.at(x);
        for (int i = 0; i < due.size(); i++) {
            checks.due(name + ": " + due.get(i), i < seen.size() && seen.get(i).equals(due.get(i)), true);
        }
    }

    private void wrongTexts(int n) {
        refused("end", x.end(n));
        refused("rule with a FAULT", x.rule());
        refused("told rule", x.told(n, 0));
        refused("told what", x.told(0, n));
        refused("count", x.count(n));
    }

    private void wrongRules(int n) {
        refused("range rule", x.range(n, 1, 0, 1, 5));
        refused("range term", x.range(1, n, 0, 1, 5));
        refused("range from", x.range(1, 1, n == -1 ? 1000 : n, 1, 5));
        refused("range step", x.range(1, 1, 0, n, 5));
        refused("range many", x.range(1, 1, 0, 1, n));
        refused("range again", x.range(0, 1, 0, 1, 5));
        refused("mark rule", x.mark(n, 1, 1));
        refused("mark term", x.mark(0, n, 1));
        refused("mark", x.mark(0, 1, n));
        refused("chart rule", x.chart(n, 12, 100, 1010, 0, 0));
        refused("chart order", x.chart(0, n, 100, 1010, 0, 0));
        refused("chart wide", x.chart(0, 12, n, 1010, 0, 0));
        refused("chart first", x.chart(0, 12, 100, n, 0, 0));
        refused("chart second", x.chart(0, 12, 100, 1010, n, 0));
        refused("chart third", x.chart(0, 12, 100, 1010, 0, n));
        refused("chart without RANGES", x.chart(1, 123, 100, 1010, 1010, 0));
    }

    private void wrongReadings(int n) {
        refused("reading chart", x.reading(n, 0));
        refused("reading marks", x.reading(0, n));
        refused("read day", x.read(n, 0));
        refused("read what", x.read(0, n));
        refused("lead page", x.lead(n, 0));
        refused("lead what", x.lead(0, n));
        refused("span", x.span(n, true));
    }

    private void wrongCharts(int n) {
        refused("page chart", x.page(n, 0, 0));
        refused("page", x.page(0, n, 0));
        refused("page what", x.page(0, 0, n));
        refused("sharpest chart", x.sharpest(n, 0, 0));
        refused("sharpest eye", x.sharpest(0, n, 0));
        refused("sharpest what", x.sharpest(0, 0, n));
        refused("list", x.list(n));
        refused("list again", x.list(10));
        refused("finest chart", x.finest(n, 400, 0));
        refused("finest high", x.finest(0, n, 0));
        refused("finest page", x.finest(0, 400, n));
        refused("paper chart", x.paper(n, 1, 1, 1));
        refused("paper seam", x.paper(0, n == -1 ? -30001 : n, 1, 1));
        refused("paper low", x.paper(0, 1, n == -1 ? -51 : n, 1));
        refused("paper up", x.paper(0, 1, 1, n == -1 ? -51 : n));
        refused("swelled chart", x.swelled(n, 0, true));
        refused("swelled y", x.swelled(0, n == -1 ? -100001 : n, true));
    }

    private void wrongReports(int n) {
        refused("go", x.go(n));
        refused("move chart", x.move(n, 1, 1, 1));
        refused("move term", x.move(0, n, 1, 1));
        refused("move mark", x.move(0, 1, n, 1));
        refused("move number", x.move(0, 1, 1, n == -1 ? -100000 : n));
        refused("report reader", x.report(n, 1));
        refused("report tenths", x.report(1, n));
        refused("due report", x.due(n, 5, 0));
        refused("due bound", x.due(0, n, 0));
        refused("due what", x.due(0, 5, n));
        refused("habit", x.habit(n));
        refused("suspects chart", x.suspects(n, 5, 0));
        refused("suspects bound", x.suspects(0, n, 0));
        refused("suspects what", x.suspects(0, 5, n));
    }

    private void tooMany() {
        refused("feed", x.feed(0, 0, 0, 0, 0));
        refused("rule", x.rule());
        refused("chart", x.chart(0, 12, 100, 1010, 0, 0));
        refused("list", x.list(50));
        refused("move", x.move(0, 1, 1, 1));
        refused("report", x.report(0, 0));
    }
}
