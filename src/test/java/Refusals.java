import java.util.List;

/**
 * Calls that are refused: each comes to a house of its own, gets the answer that is due, and behind it all that can
 * be seen is what can be seen of a house to which it never came.
 */
final class Refusals {
    interface House {
        ThreadCharts built();
    }

    interface Call {
        long on(ThreadCharts x);
    }

    interface Question {
        boolean on(ThreadCharts x);
    }

    private final Checks checks;
    private final House house;
    private final List<String> untouched;

    Refusals(Checks checks, House house) {
        this.checks = checks;
        this.house = house;
        untouched = Look.at(house.built());
    }

    void none(String name, Call call) {
        refused(name, Checks.NONE, call);
    }

    void isVoid(String name, Call call) {
        refused(name, Checks.VOID, call);
    }

    void no(String name, Question question) {
        refused(name, 0, x -> question.on(x) ? 1 : 0);
    }

    private void refused(String name, long want, Call call) {
        ThreadCharts x = house.built();
        checks.due(name, call.on(x), want);
        List<String> seen = Look.at(x);
        for (int i = 0; i < untouched.size(); i++) {
            boolean like = i < seen.size() && seen.get(i).equals(untouched.get(i));
            if (!like) {
                checks.due(name + " changed '" + untouched.get(i) + "'", false, true);
                return;
            }
        }
        checks.due(name + " changed nothing", seen.size(), untouched.size());
    }
}
