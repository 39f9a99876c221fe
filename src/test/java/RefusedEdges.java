import java.util.ArrayList;
import java.util.List;

/** What is refused: BAD, NO, NONE and FULL, in this order, and that nothing changes then. */
final class RefusedEdges {
    private static final int BAD = ShedStages.BAD;
    private static final int NO = ShedStages.NO;
    private static final int FULL = ShedStages.FULL;
    private static final int NONE = ShedStages.NONE;

    /** BUSES 0 and 2 go DARK with the first TICK, when the LINKS are OPEN. */
    private static final String DARK = "b3;l0,1;l1,2;p0,1,1,1;p1,20,1,4;f0,50,0;f1,20,1;f2,5,0;s4999,9;";
    private static final String[] GONE_DARK = {"link(0, 0)", "link(1, 0)", "tick(1)", "feeder(1, 0)"};

    /** Numbers at which something begins or ends, for any call. */
    private static final int[] NUMBERS = {Integer.MIN_VALUE, -1, 0, 1, 2, 3, 4, 5, 6, 8, 9, 12, 30, 31, 32, 60, 61, 126, 127,
        4699, 4700, 4899, 4900, 4980, 4999, 5000, 5001, 9999, Integer.MAX_VALUE};
    /** Some of them, where a call takes two. */
    private static final int[] PAIRS = {-1, 0, 1, 2, 3, 5, 6, 9, 4699, 4700, 4899, 4900, 4980, 4999, 5000, 5001,
        Integer.MAX_VALUE};
    private static final String[] ONE_NUMBER = {"write", "tick", "begin", "at", "plant", "isOn", "isClosed", "dropped", "dark",
        "count"};
    private static final String[] TWO_NUMBERS = {"link", "feeder", "mark", "island", "counted"};

    private RefusedEdges() { }

    static void all(Edge edge) {
        edge.of("BAD: a number is none that is told (BUSES, LINKS, PLANTS, FEEDERS, STAGES, ISLANDS such as there are).",
                RefusedEdges::suchAsThereAre);
        edge.of("NO: not as things stand.", RefusedEdges::asThingsStand);
        edge.of("NONE: there is none.", RefusedEdges::thereIsNone);
        edge.of("FULL.", RefusedEdges::full);
        edge.of("Of several the first in this order, whatever the order at a call;", RefusedEdges::firstInOrder);
        edge.of("nothing changes then.", RefusedEdges::nothingChanges);
    }

    /** Numbers that there are elsewhere, or that there were, are none. */
    private static void suchAsThereAre(Edge edge) {
        Run small = edge.laid("b2;l0,1;p0,9,1,1;f0,9,1;s4800,1;");
        small.bounds("at(#)", 0, 1).bounds("begin(#)", 0, 1).bounds("dark(#)", 0, 1).bounds("ahead(1, #, 0)", 0, 1);
        small.bounds("link(#, 0)", 0, 0).bounds("isClosed(#)", 0, 0).bounds("plant(#)", 0, 0);
        small.bounds("feeder(#, 0)", 0, 0).bounds("isOn(#)", 0, 0).bounds("mark(#, 4900)", 0, 1).bounds("counted(0, #)", 0, 1);
        small.bounds("island(#, 0)", 0, 0).bounds("counted(#, 0)", 0, 0).bounds("least(#, 1, 0)", 0, 0);
        // one ISLAND more, one less
        small.does("link(0, 0)").bounds("island(#, 0)", 0, 1).bounds("counted(#, 1)", 0, 1).bounds("least(#, 1, 1)", 0, 1);
        small.does("link(0, 1)").bounds("island(#, 0)", 0, 0).does("undo()").bounds("island(#, 0)", 0, 1);
        // those of the TEXT that was LAID ahead of this one are no more
        Run less = edge.laid("b6;l0,1;l1,2;p0,9,1,1;p0,9,1,1;f0,9,1;f0,9,1;s4800,1;s4800,1;", "wipe()").tell("b1;");
        less.bounds("at(#)", 0, 5).does("lay()").bounds("at(#)", 0, 0).bounds("island(#, 0)", 0, 0).bounds("counted(0, #)", 0, 0);
        less.refused("plant(0)", BAD).refused("isOn(0)", BAD).refused("feeder(0, 0)", BAD).refused("isClosed(0)", BAD);
        less.refused("link(0, 0)", BAD).refused("mark(1, 4900)", BAD);
    }

    private static void asThingsStand(Edge edge) {
        edge.made().refused("lay()", NO).refused("undo()", NO).refused("link(0, 1)", NO).refused("feeder(0, 1)", NO)
                .refused("begin(0)", NO).refused("mark(0, 4980)", NO);
        // what is refused as things stand is not, when they stand otherwise
        Run x = edge.laid(DARK, GONE_DARK);
        x.refused("feeder(0, 1)", NO).does("begin(0)").again().does("feeder(0, 1)");
        x.does("feeder(0, 1)").refused("feeder(0, 1)", NO).does("tick(1)").refused("feeder(0, 1)", NO);
    }

    private static void thereIsNone(Edge edge) {
        edge.made().refused("dropped(0)", NONE).due("fault()", NONE).refused("dark(0)", NONE);
        edge.laid("b1;").refused("least(0, 1, 0)", NONE).refused("dropped(0)", NONE);
    }

    private static void full(Edge edge) {
        Run x = edge.told("b1;" + " ".repeat(196));
        x.due("write(32)", 200).refused("write(32)", FULL).due("wipe()", 200).due("write(32)", 1);
    }

    private static void firstInOrder(Edge edge) {
        // BAD ahead of FULL
        edge.told("b".repeat(200)).refused("write(31)", BAD).refused("write(127)", BAD).refused("write(32)", FULL);
        // BAD ahead of NO: where either number would be refused for itself
        Run x = edge.laid(DARK, GONE_DARK);
        x.refused("link(0, 0)", NO).refused("link(0, 2)", BAD).refused("link(2, 0)", BAD).refused("link(-1, 2)", BAD);
        x.refused("feeder(0, 0)", NO).refused("feeder(0, 2)", BAD).refused("feeder(3, 1)", BAD).refused("feeder(0, -1)", BAD);
        x.refused("begin(2)", NO).refused("begin(3)", BAD).refused("mark(1, 4999)", NO).refused("mark(2, 4999)", BAD);
        x.refused("mark(1, 5000)", BAD).refused("mark(2, 5000)", BAD);
        Run y = edge.made();
        for (int i = 0; i < 166; i++) {
            y.does("tick(60)");
        }
        y.does("tick(39)").refused("tick(60)", NO).refused("tick(61)", BAD).refused("tick(0)", BAD);
        // BAD ahead of NONE
        x.refused("least(0, 30, 0)", NONE).refused("least(0, 31, 0)", BAD).refused("least(0, 30, 2)", BAD);
        x.refused("least(3, 30, 0)", BAD).refused("least(3, 31, 2)", BAD);
        edge.made().refused("dropped(0)", NONE).refused("dropped(-1)", BAD);
        // BAD ahead of NO and NONE, NO ahead of NONE: what is DARK does not go DARK in 60 TICKS either
        x.refused("dark(3)", BAD).refused("dark(0)", NO).refused("dark(1)", NONE);
    }

    private static void nothingChanges(Edge edge) {
        nothingChanges(edge, edge.made());
        nothingChanges(edge, edge.made("link(0, 0)", "tick(2)", "feeder(2, 0)", "mark(1, 4800)").tell("b2;l0,"));
        nothingChanges(edge, edge.laid(DARK, GONE_DARK));
        nothingChanges(edge, edge.laid("b1;", "wipe()").tell("~".repeat(200)));
    }

    /** Each call with each number: it is refused and nothing changes, or it was none that could be refused. */
    private static void nothingChanges(Edge edge, Run stands) {
        List<Integer> before = stands.seen();
        int refused = 0;
        for (String call : calls()) {
            Run x = stands.again();
            if (x.call(call) < 0) {
                refused++;
                edge.holds("nothing changes by " + call, x.seen().equals(before));
            }
        }
        edge.holds("some are refused", refused > 100);
    }

    private static List<String> calls() {
        List<String> calls = new ArrayList<>(List.of("fault()", "lay()", "undo()"));
        for (int a : NUMBERS) {
            for (String name : ONE_NUMBER) {
                calls.add(name + "(" + a + ")");
            }
        }
        for (int a : PAIRS) {
            for (String name : TWO_NUMBERS) {
                for (int b : PAIRS) {
                    calls.add(name + "(" + a + ", " + b + ")");
                }
            }
            for (int b : new int[] {-1, 0, 1, 6, 31, 61}) {
                calls.add("ahead(" + a + ", " + b + ", 0)");
                calls.add("ahead(1, " + b + ", " + a + ")");
                calls.add("least(" + b + ", " + a + ", 0)");
                calls.add("least(0, " + b + ", " + a + ")");
            }
        }
        return calls;
    }
}
