import java.util.ArrayList;
import java.util.List;

/** All that can be seen of an object, in some 250 calls; it is used up by them. */
final class Look {
    private final ThreadCharts x;
    private final List<String> answers = new ArrayList<>();

    private Look(ThreadCharts x) {
        this.x = x;
    }

    static List<String> at(ThreadCharts x) {
        Look look = new Look(x);
        look.counts();
        look.rules();
        look.theReading();
        look.charts();
        look.reports();
        look.otherReadings();
        look.list();
        look.text();
        return look.answers;
    }

    private void add(String call, long answer) {
        answers.add(call + " " + answer);
    }

    private void counts() {
        for (int what = 0; what < 8; what++) {
            add("count " + what, x.count(what));
        }
        add("fault", x.fault());
    }

    private void rules() {
        int[] whats = {0, 1, 11, 12, 13, 21, 22, 23};
        for (int r = 0; r < x.count(1); r++) {
            for (int what : whats) {
                add("told " + r + " " + what, x.told(r, what));
            }
            for (int t = 0; t < 4; t++) {
                add("mark 0 of " + r + " " + t, x.mark(r, t, 0));
                add("mark 9 of " + r + " " + t, x.mark(r, t, 9));
            }
        }
    }

    private void theReading() {
        add("read on DAY 0", x.read(0, 0));
        for (int what = 0; what < 3; what++) {
            add("read " + what, x.read(x.count(0), what));
        }
        for (int what = 0; what < 4; what++) {
            add("lead " + what, x.lead(0, what));
        }
        add("span", x.span(5, true));
    }

    private void charts() {
        for (int c = 0; c < x.count(2); c++) {
            add("MID " + c, x.page(c, 0, 0));
            add("TALL " + c, x.page(c, 0, 1));
            add("swelled " + c, x.swelled(c, 1000, false));
            add("swelled below 0 " + c, x.swelled(c, -1000, false));
        }
        add("sharpest", x.sharpest(0, 5, 0));
        add("finest", x.finest(0, 250, 0));
    }

    private void reports() {
        int last = x.count(4) - 1;
        for (int i : new int[] {0, 1, 4, last - 1, last, last + 1}) {
            add("due " + i, x.due(i, 5, 0));
            add("bad " + i, x.due(i, 5, 1));
        }
        for (int reader = 0; reader < 8; reader++) {
            add("habit " + reader, x.habit(reader));
        }
        for (int what = 0; what < 4; what++) {
            add("suspects " + what, x.suspects(0, 5, what));
        }
    }

    /** What was MOVED shows in READINGS. */
    private void otherReadings() {
        for (int c = 0; c < x.count(2); c++) {
            for (int m = 1; m < 4; m++) {
                add("reading " + c + " " + m, x.reading(c, 101 * m) ? 1 : 0);
                add("its read", x.read(x.count(0), 0));
            }
        }
    }

    private void list() {
        add("list", x.list(50));
        add("clear", x.clear());
        add("list of 10", x.list(10));
    }

    private void text() {
        for (int cut = 0; cut < 4; cut++) {
            add("fault of all but " + cut, x.fault());
            add("end", x.end(x.count(6) - 1) ? 1 : 0);
        }
    }
}
