import java.util.ArrayList;
import java.util.List;

/** An object and the calls that it has had, so that another one can be brought as far. */
final class Run {
    private static final int MOST_CALLS = 512;
    private static final int MOST_UNDONE = 4;

    private final Edge edge;
    private final ShedStages object = new ShedStages();
    private final List<String> calls = new ArrayList<>();

    Run(Edge edge) {
        this.edge = edge;
    }

    int call(String call) {
        calls.add(call);
        if (calls.size() > MOST_CALLS) {
            edge.holds("the document tells of no more than 512 calls", false);
        }
        return Calls.answer(object, call);
    }

    /** The answer that is due to a call. */
    Run due(String call, int want) {
        edge.is(call, call(call), want);
        return this;
    }

    /** Calls that are not refused. */
    Run does(String... some) {
        for (String call : some) {
            int got = call(call);
            if (got < 0) {
                edge.is(call + " is not refused", got, 0);
            }
        }
        return this;
    }

    Run tell(String text) {
        for (int i = 0; i < text.length(); i++) {
            does("write(" + (int) text.charAt(i) + ")");
        }
        return this;
    }

    /** Another object that has had the same calls. */
    Run again() {
        Run other = new Run(edge);
        calls.forEach(other::call);
        return other;
    }

    /** A call that is refused, and by which nothing changes. */
    Run refused(String call, int want) {
        List<Integer> before = seen();
        due(call, want);
        edge.holds("nothing changes by " + call, seen().equals(before));
        calls.remove(calls.size() - 1);
        return this;
    }

    /** A number (# in the call) is BAD below the lowest and above the highest one that is told, and only there. */
    Run bounds(String call, int lowest, int highest) {
        for (int n = lowest; n <= highest; n++) {
            String good = call.replace("#", String.valueOf(n));
            int got = again().call(good);
            edge.holds(good + " is not BAD", got != ShedStages.BAD);
        }
        int[] wrong = {lowest - 1, highest + 1, -1, lowest - 2, highest + 2, 10000, lowest + 32 * 512, lowest + 65536,
            lowest - 65536, Integer.MIN_VALUE, Integer.MIN_VALUE + lowest, Integer.MAX_VALUE};
        for (int n : wrong) {
            if (n < lowest || n > highest) {
                refused(call.replace("#", String.valueOf(n)), ShedStages.BAD);
            }
        }
        return this;
    }

    /** All that calls can tell of it: how it stands, how it stood ahead of each change, its MARKS, its TEXT. */
    List<Integer> seen() {
        List<Integer> seen = new ArrayList<>();
        for (int back = 0; back <= MOST_UNDONE; back++) {
            Run run = again();
            for (int k = 0; k < back; k++) {
                seen.add(run.call("undo()"));
            }
            run.look(seen);
        }
        Run run = again();
        for (int s = 0; s <= 5; s++) {
            seen.add(run.call("mark(" + s + ", 4951)"));
        }
        seen.add(run.call("fault()"));
        seen.add(run.call("lay()"));
        run.look(seen);
        return seen;
    }

    private void look(List<Integer> seen) {
        int buses = call("count(0)");
        int islands = call("count(5)");
        for (int what = 0; what <= 11; what++) {
            seen.add(call("count(" + what + ")"));
        }
        for (int i = 0; i < islands; i++) {
            for (int what = 0; what <= 8; what++) {
                seen.add(call("island(" + i + ", " + what + ")"));
            }
            for (int s = 0; s <= 5; s++) {
                seen.add(call("counted(" + i + ", " + s + ")"));
            }
        }
        for (int k = 0; k <= 9; k++) {
            seen.add(call("isOn(" + k + ")"));
            seen.add(call("dropped(" + k + ")"));
            seen.add(call("isClosed(" + k + ")"));
            seen.add(call("plant(" + k + ")"));
        }
        for (int b = 0; b < buses; b++) {
            seen.add(call("at(" + b + ")"));
            seen.add(call("ahead(60, " + b + ", 1)"));
        }
        for (int what = 2; what <= 4; what++) {
            seen.add(call("ahead(60, 0, " + what + ")"));
        }
    }
}
