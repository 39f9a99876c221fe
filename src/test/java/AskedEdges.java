import java.util.List;

/** Boundary cases of what is asked: terms 3, and promises 12 to 22. */
final class AskedEdges {
    private static final int BAD = ShedStages.BAD;
    private static final int NO = ShedStages.NO;
    private static final int NONE = ShedStages.NONE;

    /** As much of all as can be, but for LINKS: three ISLANDS, of BUSES 0, 2, 4 and 1, 5 and 3. */
    private static final String MANY = "b6;l0,4;l5,1;l4,2;" + "p0,9,1,1;".repeat(5) + "p5,9,1,1;" + "f0,4,1;".repeat(6)
            + "f1,2,5;f3,6,0;f5,3,2;" + "s4800,1;".repeat(5);
    /** PLANTS of CAP 50 and HEAVY 10 in all: F falls by 1 a TICK at a LOAD of 51. */
    private static final String TEN = "b1;p0,49,1,9;p0,1,1,1;f0,50,0;f0,1,1;";

    private AskedEdges() { }

    static void all(Edge edge) {
        edge.of("AHEAD n TICKS (1 to 60): as they would go by (nothing changes by it).", AskedEdges::aheadIsTicks);
        edge.of("LEAST of an ISLAND for n TICKS (1 to 30):", AskedEdges::leastTicks);
        edge.of("of sets of its FEEDERS that are ON (bits; none of them is one, too),", AskedEdges::leastSets);
        edge.of("dropped by hand now, the lowest first,", AskedEdges::leastLowestFirst);
        edge.of("by which it does not go DARK and drops none in n TICKS,", AskedEdges::leastHolds);
        edge.of("that of least LOAD, of several of fewest, of several the least bits", AskedEdges::leastOfSeveral);
        edge.of("(those that come BACK in them may);", AskedEdges::leastWithBack);
        edge.of("none, too, if it is DARK.", AskedEdges::leastOfDark);
        islands(edge);
        ahead(edge);
    }

    private static void islands(Edge edge) {
        edge.of("Of an ISLAND: its BUSES as bits (what = 0), F (1), LOAD (2), GIVEN (3), CAP (4), HEAVY (5), "
                + "FEEDERS that are ON (6), that were dropped (7),", AskedEdges::island);
        edge.of("AIM (8; 0: DARK). BAD.", AskedEdges::islandAim);
        edge.of("COUNT of an ISLAND for a STAGE (1 on), for the way BACK (0). BAD.", AskedEdges::counted);
        edge.of("The ISLAND of a BUS. BAD.", AskedEdges::at);
        edge.of("What a PLANT gives. BAD.", AskedEdges::plant);
        edge.of("1 if a FEEDER is ON, else 0. BAD.", AskedEdges::isOn);
        edge.of("1 if a LINK is CLOSED, else 0. BAD.", AskedEdges::isClosed);
        edge.of("The k-th FEEDER that was dropped and is OFF, the latest first (0 the first).", AskedEdges::dropped);
        edge.of("BAD (k below 0); NONE: not so many.", AskedEdges::droppedNone);
    }

    private static void ahead(Edge edge) {
        edge.of("AHEAD n TICKS: F of a BUS then (what = 0),", AskedEdges::aheadBounds);
        edge.of("the least F of it behind any of them (1),", AskedEdges::aheadLeast);
        edge.of("how many FEEDERS are dropped in them (2), LOAD of these in sum, each time (3), how many come BACK (4). BAD.",
                AskedEdges::aheadDrops);
        edge.of("LEAST of an ISLAND: the set (what = 0), LOAD of it (1). BAD;", AskedEdges::leastBounds);
        edge.of("LEAST of an ISLAND: the set (what = 0), LOAD of it (1). BAD; NONE.", AskedEdges::leastNone);
        edge.of("In how many TICKS (1 to 60) the ISLAND of a BUS goes DARK. BAD;", AskedEdges::dark);
        edge.of("NO: it is DARK;", AskedEdges::darkNo);
        edge.of("NONE: not in 60.", AskedEdges::darkNone);
        edge.of("How many: 0 BUSES, 1 LINKS, 2 PLANTS, 3 FEEDERS, 4 STAGES, 5 ISLANDS, 6 DARK ones, 7 TICKS, "
                + "8 FEEDERS that are ON, 9 LOAD of all, 10 changes that can be UNDONE, 11 letters of THE TEXT. BAD.",
                AskedEdges::count);
    }

    /** Asking refuses nothing here, and changes nothing either. */
    private static void asks(Edge edge, Run x, String call) {
        List<Integer> before = x.seen();
        x.call(call);
        edge.holds("nothing changes by " + call, x.seen().equals(before));
    }

    private static void aheadIsTicks(Edge edge) {
        // as TICKS go by, for each number of them
        for (int n = 1; n <= 60; n++) {
            Run x = edge.made("link(0, 0)");
            int f = x.call("ahead(" + n + ", 2, 0)");
            int drops = x.call("ahead(" + n + ", 2, 2)");
            x.due("tick(" + n + ")", drops).due("island(1, 1)", f);
        }
        for (int what = 0; what <= 4; what++) {
            asks(edge, edge.made("link(0, 0)", "mark(1, 4890)", "feeder(0, 0)"), "ahead(60, 1, " + what + ")");
            asks(edge, edge.made("link(0, 0)"), "ahead(1, 1, " + what + ")");
        }
        // 9999 TICKS are no bound ahead
        Run y = edge.made();
        for (int i = 0; i < 166; i++) {
            y.does("tick(60)");
        }
        y.does("tick(39)").due("ahead(60, 0, 0)", 5000).due("ahead(60, 0, 2)", 0).does("link(0, 0)");
        y.due("ahead(1, 1, 0)", 4884).due("ahead(1, 1, 2)", 0).due("ahead(2, 1, 2)", 1).due("dark(0)", NONE);
        y.due("least(1, 30, 1)", 25).due("count(7)", 9999);
    }

    private static void leastTicks(Edge edge) {
        edge.laid(TEN + "s4971,1;").bounds("least(0, #, 0)", 1, 30).bounds("least(0, #, 1)", 1, 30);
        // F is 4971 in the 29th TICK, 4970 in the 30th
        Run x = edge.laid(TEN + "s4971,1;").due("least(0, 29, 0)", 0).due("least(0, 30, 0)", 2).due("least(0, 30, 1)", 1);
        x.does("tick(29)").due("island(0, 1)", 4971).due("least(0, 1, 0)", 2);
        edge.laid(TEN + "s4970,1;").due("least(0, 30, 0)", 0);
        // 9999 TICKS, or what goes by in them, are not changed
        asks(edge, edge.made("link(0, 0)", "tick(1)"), "least(1, 30, 0)");
    }

    private static void leastSets(Edge edge) {
        // none of them: where nothing is dropped, and where there is none
        edge.made().due("least(0, 1, 0)", 0).due("least(0, 30, 0)", 0).due("least(0, 30, 1)", 0);
        edge.laid("b1;p0,1,1,1;").due("least(0, 30, 0)", 0).due("least(0, 30, 1)", 0);
        // all of them
        edge.laid("b1;p0,1,1,1;" + "f0,50,0;".repeat(9)).due("least(0, 1, 0)", 511).due("least(0, 1, 1)", 450);
        edge.laid("b1;p0,1,1,1;f0,50,0;").due("least(0, 1, 0)", 1).due("least(0, 1, 1)", 50);
        // only those that are ON, only those of the ISLAND
        Run x = edge.laid("b2;p1,10,1,1;f1,1,0;f0,1,0;f1,40,0;f1,2,0;");
        x.due("least(1, 1, 0)", 1 + 8).due("least(1, 1, 1)", 3);
        Run y = edge.laid("b2;p1,10,1,1;f1,3,0;f0,1,0;f1,40,0;f1,3,0;", "feeder(0, 0)").due("least(1, 1, 0)", 8);
        y.due("least(1, 1, 1)", 3).does("feeder(3, 0)").due("least(1, 1, 0)", 0).does("tick(1)");
    }

    private static void leastLowestFirst(Edge edge) {
        // FEEDER 1, dropped behind FEEDER 0, comes BACK ahead of it: F is 5000, then 4990
        Run x = edge.laid("b2;l0,1;p0,99,9,9;p1,60,1,9;f1,40,1;f1,10,1;s4990,1;r4900,1;", "link(0, 0)");
        x.due("least(1, 2, 0)", 3).due("least(1, 2, 1)", 50).due("least(1, 1, 0)", 1);
        x.again().does("feeder(0, 0)", "feeder(1, 0)").due("tick(2)", 0);
        x.again().does("feeder(1, 0)", "feeder(0, 0)").due("tick(2)", 1);
    }

    private static void leastHolds(Edge edge) {
        // F may be 4700, not 4699; LOAD may be 40 at most for one TICK, with GIVEN 10 and HEAVY 1
        String text = "b1;p0,10,1,1;f0,40,0;f0,1,0;";
        edge.laid("b1;p0,10,1,1;f0,40,0;").due("least(0, 1, 0)", 0);
        edge.laid(text).due("least(0, 1, 0)", 2).due("least(0, 1, 1)", 1).due("least(0, 2, 0)", 1);
        // F may be MARK, not 1 less
        edge.laid(TEN + "s4999,1;").due("least(0, 1, 0)", 0).due("least(0, 2, 0)", 2);
        // COUNT may be WAIT less 1; what COUNT there is now counts
        Run x = edge.laid(TEN + "s4999,3;").due("least(0, 3, 0)", 0).due("least(0, 4, 0)", 2);
        x.does("tick(2)").due("counted(0, 1)", 1).due("least(0, 1, 0)", 0).due("least(0, 2, 0)", 2);
        // others may go DARK, and drop
        edge.laid("b3;p1,9,1,1;f1,9,0;f0,50,0;p2,1,1,1;f2,2,1;s4999,1;").due("least(1, 30, 0)", 0);
    }

    private static void leastOfSeveral(Edge edge) {
        String text = "b1;p0,50,1,5;";
        // 20 are too much: 20 at once is less than 21, than 10 and 11, and fewer than 10 and 10
        edge.laid(text + "f0,21,1;f0,20,1;f0,10,1;f0,19,1;s4999,1;").due("least(0, 30, 0)", 2).due("least(0, 30, 1)", 20);
        edge.laid(text + "f0,10,1;f0,10,1;f0,20,1;f0,30,1;s4999,1;").due("least(0, 30, 0)", 4).due("least(0, 30, 1)", 20);
        // fewest, be it that of the lower bits or of the higher ones
        edge.laid(text + "f0,20,1;f0,10,1;f0,10,1;f0,30,1;s4999,1;").due("least(0, 30, 0)", 1).due("least(0, 30, 1)", 20);
        // less LOAD is ahead of fewer
        edge.laid(text + "f0,21,1;f0,10,1;f0,10,1;f0,29,1;s4999,1;").due("least(0, 30, 0)", 6).due("least(0, 30, 1)", 20);
        // of two of the same LOAD the lower one; of two pairs that of the least bits
        edge.laid(text + "f0,30,1;f0,20,1;f0,20,1;s4999,1;").due("least(0, 30, 0)", 2);
        edge.laid(text + "f0,10,1;f0,10,1;f0,10,1;f0,40,1;s4999,1;").due("least(0, 30, 0)", 3);
        // fewest is ahead of the least bits: the highest bit alone
        edge.laid(text + "f0,5,1;f0,15,1;f0,30,1;f0,20,1;s4999,1;").due("least(0, 30, 0)", 8);
    }

    private static void leastWithBack(Edge edge) {
        // FEEDER 0 comes BACK in the first TICK; F is 4999, then 4964 for one TICK
        Run x = edge.laid("b2;l0,1;p0,60,9,9;p1,60,9,9;f1,40,0;f1,10,1;s4990,2;r4900,1;", "link(0, 0)");
        x.due("least(1, 2, 0)", 1).does("feeder(0, 0)").due("tick(2)", 0).due("isOn(0)", 1);
    }

    private static void leastOfDark(Edge edge) {
        Run x = edge.laid("b2;p0,1,1,1;f0,50,0;", "tick(1)").due("count(6)", 2);
        for (int i = 0; i <= 1; i++) {
            x.refused("least(" + i + ", 1, 0)", NONE).refused("least(" + i + ", 30, 1)", NONE);
        }
        x.does("begin(0)").due("least(0, 30, 0)", 0).does("feeder(0, 1)").due("least(0, 1, 0)", 1);
    }

    private static void island(Edge edge) {
        Run x = edge.laid(MANY).bounds("island(#, 0)", 0, 2).bounds("island(2, #)", 0, 8).bounds("island(0, #)", 0, 8);
        int[][] want = {{21, 5000, 24, 24, 45, 5, 6, 0, 24}, {34, 5000, 5, 5, 9, 1, 2, 0, 5}, {8, 5000, 6, 0, 0, 0, 1, 0, 6}};
        for (int i = 0; i < 3; i++) {
            for (int what = 0; what <= 8; what++) {
                x.due("island(" + i + ", " + what + ")", want[i][what]);
            }
        }
        edge.laid("b6;").bounds("island(#, 1)", 0, 5);
        edge.laid("b1;").bounds("island(#, 1)", 0, 0).bounds("island(0, #)", 0, 8).due("island(0, 0)", 1);
        // all ON, all dropped
        Run y = edge.laid("b1;" + "f0,50,0;".repeat(9)).due("island(0, 6)", 9).due("island(0, 7)", 0).does("tick(1)");
        y.due("island(0, 6)", 0).due("island(0, 7)", 9);
        // in a DARK one all can be asked
        y.bounds("island(0, #)", 0, 8);
        asks(edge, y, "island(0, 1)");
    }

    private static void islandAim(Edge edge) {
        edge.laid("b1;f0,50,0;").due("island(0, 8)", 50).does("tick(1)").due("island(0, 8)", 0);
        edge.laid("b1;p0,1,1,1;f0,50,0;", "tick(1)").due("island(0, 8)", 0).does("begin(0)").due("island(0, 8)", 0)
                .does("feeder(0, 1)").due("island(0, 8)", 50);
        edge.laid("b1;p0,50,1,1;f0,50,0;", "feeder(0, 0)", "tick(1)").due("island(0, 8)", -10);
    }

    private static void counted(Edge edge) {
        Run x = edge.laid(MANY).bounds("counted(#, 0)", 0, 2).bounds("counted(#, 5)", 0, 2).bounds("counted(2, #)", 0, 5);
        asks(edge, x, "counted(0, 5)");
        edge.made().bounds("counted(#, 3)", 0, 0).bounds("counted(0, #)", 0, 3);
        edge.laid("b1;").bounds("counted(0, #)", 0, 0);
        edge.laid("b1;p0,9,1,1;f0,9,0;", "tick(60)").due("counted(0, 0)", 60);
        edge.laid(TEN + "s4999,9;s4999,9;s4999,9;s4999,9;s4998,9;", "tick(4)").due("counted(0, 4)", 3).due("counted(0, 5)", 2);
        // as many ISLANDS as there are now
        edge.made("link(0, 0)", "link(1, 0)").bounds("counted(#, 0)", 0, 2);
    }

    private static void at(Edge edge) {
        edge.made().bounds("at(#)", 0, 2);
        edge.laid("b1;").bounds("at(#)", 0, 0).due("at(0)", 0);
        edge.laid("b6;").bounds("at(#)", 0, 5).due("at(0)", 0).due("at(5)", 5);
        Run x = edge.laid(MANY).bounds("at(#)", 0, 5);
        int[] want = {0, 1, 0, 2, 0, 1};
        for (int b = 0; b < 6; b++) {
            x.due("at(" + b + ")", want[b]);
        }
        asks(edge, x, "at(5)");
    }

    private static void plant(Edge edge) {
        edge.made().bounds("plant(#)", 0, 1);
        edge.laid("b1;").refused("plant(0)", BAD);
        Run x = edge.laid(MANY).bounds("plant(#)", 0, 5).due("plant(0)", 9).due("plant(2)", 6).due("plant(3)", 0);
        x.due("plant(5)", 5);
        edge.laid("b1;p0,99,1,1;f0,50,0;f0,49,0;").due("plant(0)", 99);
        asks(edge, x, "plant(5)");
    }

    private static void isOn(Edge edge) {
        edge.made().bounds("isOn(#)", 0, 3);
        edge.laid("b1;").refused("isOn(0)", BAD);
        Run x = edge.laid(MANY, "feeder(0, 0)", "feeder(8, 0)").bounds("isOn(#)", 0, 8);
        x.due("isOn(0)", 0).due("isOn(1)", 1).due("isOn(7)", 1).due("isOn(8)", 0).does("feeder(8, 1)").due("isOn(8)", 1);
        asks(edge, x, "isOn(8)");
    }

    private static void isClosed(Edge edge) {
        edge.made().bounds("isClosed(#)", 0, 1);
        edge.laid("b1;").refused("isClosed(0)", BAD);
        Run x = edge.laid("b2;" + "l0,1;".repeat(9), "link(0, 0)", "link(8, 0)").bounds("isClosed(#)", 0, 8);
        x.due("isClosed(0)", 0).due("isClosed(1)", 1).due("isClosed(7)", 1).due("isClosed(8)", 0).does("link(8, 1)");
        x.due("isClosed(8)", 1);
        asks(edge, x, "isClosed(8)");
    }

    private static void dropped(Edge edge) {
        Run x = edge.laid("b1;" + "f0,50,0;".repeat(9));
        int[] order = {4, 0, 8, 3, 7, 1, 6, 2, 5};
        for (int f : order) {
            x.does("feeder(" + f + ", 0)").due("dropped(0)", f);
        }
        for (int k = 0; k < 9; k++) {
            x.due("dropped(" + k + ")", order[8 - k]);
        }
        x.refused("dropped(9)", NONE);
        // ON again: the first, the last and one between; dropped anew it is the latest
        x.does("feeder(4, 1)", "feeder(5, 1)", "feeder(3, 1)").due("dropped(0)", 2).due("dropped(5)", 0);
        x.refused("dropped(6)", NONE).does("feeder(3, 0)").due("dropped(0)", 3).due("dropped(1)", 2).due("dropped(6)", 0);
        asks(edge, x, "dropped(0)");
    }

    private static void droppedNone(Edge edge) {
        Run x = edge.made();
        x.refused("dropped(-1)", BAD).refused("dropped(-2147483648)", BAD).refused("dropped(0)", NONE);
        x.refused("dropped(1)", NONE).refused("dropped(2147483647)", NONE).refused("dropped(9)", NONE);
        x.does("feeder(2, 0)").due("dropped(0)", 2).refused("dropped(1)", NONE).refused("dropped(-1)", BAD);
        x.does("feeder(2, 1)").refused("dropped(0)", NONE);
    }

    private static void aheadBounds(Edge edge) {
        for (int what = 0; what <= 4; what++) {
            edge.made("link(0, 0)").bounds("ahead(#, 0, " + what + ")", 1, 60).bounds("ahead(1, #, " + what + ")", 0, 2);
        }
        edge.made().bounds("ahead(1, 2, #)", 0, 4).bounds("ahead(60, 0, #)", 0, 4);
        edge.laid("b6;").bounds("ahead(60, #, 0)", 0, 5);
        edge.laid("b1;").bounds("ahead(60, #, 2)", 0, 0);
        // F is 4999 behind the first TICK, 4940 behind the 60th
        Run x = edge.laid(TEN).due("ahead(1, 0, 0)", 4999).due("ahead(59, 0, 0)", 4941).due("ahead(60, 0, 0)", 4940);
        x.does("tick(60)").due("island(0, 1)", 4940);
        // F of one that is DARK, or goes DARK, is 0; that of another one is not
        Run y = edge.laid("b2;p1,9,1,1;").due("ahead(1, 0, 0)", 0).due("ahead(1, 1, 0)", 5000).does("tick(1)");
        y.due("ahead(60, 0, 0)", 0).due("ahead(60, 1, 0)", 5000);
    }

    private static void aheadLeast(Edge edge) {
        // F is 4860 behind the 7th TICK, 4910 behind the 8th
        Run x = edge.laid("b1;p0,50,5,5;f0,30,1;f0,10,2;f0,10,1;f0,10,0;s4900,2;s4800,1;");
        x.due("ahead(6, 0, 1)", 4880).due("ahead(7, 0, 1)", 4860).due("ahead(8, 0, 1)", 4860).due("ahead(8, 0, 0)", 4910);
        // F now is behind none of them
        x.does("tick(7)").due("island(0, 1)", 4860).due("ahead(1, 0, 1)", 4910);
        // F is 5200 at most: the least one, too
        Run y = edge.laid("b1;p0,99,1,1;f0,50,0;r5000,9;", "feeder(0, 0)").due("ahead(1, 0, 1)", 5200);
        y.does("tick(1)").due("ahead(5, 0, 1)", 5200);
        // 0 once it is DARK, in the last TICK, and all the time
        Run z = edge.laid("b1;p0,20,1,1;f0,50,0;").due("ahead(1, 0, 1)", 4700).due("ahead(2, 0, 1)", 0);
        z.does("tick(2)").due("ahead(1, 0, 1)", 0).due("ahead(60, 0, 1)", 0);
    }

    private static void aheadDrops(Edge edge) {
        edge.made().due("ahead(60, 0, 2)", 0).due("ahead(60, 0, 3)", 0).due("ahead(60, 0, 4)", 0);
        // in the 60th TICK, not in the 59th
        Run x = edge.laid(TEN + "s4941,1;").due("ahead(59, 0, 2)", 0).due("ahead(60, 0, 2)", 1).due("ahead(60, 0, 3)", 1);
        x.due("ahead(59, 0, 3)", 0);
        // 9 of 50, whatever the BUS
        Run y = edge.laid("b6;" + "f0,50,0;".repeat(9));
        for (int b = 0; b < 6; b++) {
            y.due("ahead(60, " + b + ", 2)", 9).due("ahead(1, " + b + ", 3)", 450).due("ahead(60, " + b + ", 4)", 0);
        }
        // each time: both are dropped, one comes BACK, is dropped, comes BACK
        Run z = edge.laid("b2;l0,1;p0,20,1,1;p1,60,1,5;f1,5,1;f1,6,1;s4999,1;r4900,1;", "link(0, 0)");
        z.due("ahead(1, 1, 2)", 2).due("ahead(1, 1, 3)", 11).due("ahead(1, 1, 4)", 1);
        z.due("ahead(2, 1, 2)", 3).due("ahead(2, 1, 3)", 17).due("ahead(2, 1, 4)", 2);
        // in the fourth TICK comes BACK what was dropped by hand, which is not in them
        Run back = edge.made("feeder(0, 0)").due("ahead(3, 0, 4)", 0).due("ahead(4, 0, 4)", 1).due("ahead(60, 0, 4)", 1);
        back.due("ahead(60, 0, 2)", 0).due("ahead(60, 0, 3)", 0);
    }

    private static void leastBounds(Edge edge) {
        edge.made().bounds("least(#, 1, 0)", 0, 0).bounds("least(0, #, 1)", 1, 30).bounds("least(0, 30, #)", 0, 1);
        edge.made("link(0, 0)", "link(1, 0)").bounds("least(#, 30, 1)", 0, 2);
        edge.laid("b6;").bounds("least(#, 1, 0)", 0, 5);
        // in a DARK one, too
        edge.laid("b1;", "tick(1)").bounds("least(#, 1, 0)", 0, 0).bounds("least(0, #, 0)", 1, 30).bounds("least(0, 1, #)", 0, 1);
    }

    private static void leastNone(Edge edge) {
        // without PLANT nothing helps
        edge.laid("b1;").refused("least(0, 1, 0)", NONE).refused("least(0, 1, 1)", NONE);
        edge.laid("b1;f0,1,0;").refused("least(0, 1, 0)", NONE).refused("least(0, 30, 1)", NONE);
        // what is OFF already comes BACK and is dropped, whatever else is: F is 5000, then 4956
        Run x = edge.laid("b2;l0,1;p0,99,9,9;p1,60,1,9;f1,41,1;s4990,1;r4900,1;", "link(0, 0)", "feeder(0, 0)");
        x.due("least(1, 1, 0)", 0).refused("least(1, 2, 0)", NONE).refused("least(1, 2, 1)", NONE);
        x.due("tick(2)", 1);
    }

    private static void dark(Edge edge) {
        edge.made().bounds("dark(#)", 0, 2);
        edge.laid("b6;").bounds("dark(#)", 0, 5).due("dark(0)", 1).due("dark(5)", 1);
        edge.laid("b1;").bounds("dark(#)", 0, 0);
        edge.laid("b6;", "tick(1)").bounds("dark(#)", 0, 5);
        Run x = edge.laid("b2;p0,20,1,1;f0,50,0;p1,1,1,1;").due("dark(0)", 2).due("dark(1)", NONE);
        asks(edge, x, "dark(0)");
        x.does("tick(1)").due("dark(0)", 1).due("island(0, 1)", 4700);
        // what drops its FEEDERS in time does not go DARK
        edge.laid("b1;p0,20,1,1;f0,50,1;s4701,1;").due("dark(0)", NONE);
        edge.laid("b1;p0,20,1,1;f0,50,1;s4700,1;").due("dark(0)", 2);
    }

    private static void darkNo(Edge edge) {
        Run x = edge.laid("b3;p0,1,1,1;f0,50,0;p1,1,1,1;", "tick(1)").refused("dark(0)", NO).refused("dark(2)", NO);
        x.refused("dark(1)", NONE).does("begin(0)").refused("dark(0)", NONE).does("feeder(0, 1)").due("dark(0)", 1);
    }

    private static void darkNone(Edge edge) {
        // F falls by 5 a TICK: 4700 behind the 60th, below it in the 61st
        Run x = edge.laid("b1;p0,49,1,2;f0,50,0;").refused("dark(0)", NONE).does("tick(1)").due("dark(0)", 60);
        x.does("tick(1)").due("dark(0)", 59).does("tick(58)").due("island(0, 1)", 4700).due("dark(0)", 1);
        edge.made().refused("dark(0)", NONE).refused("dark(2)", NONE);
    }

    private static void count(Edge edge) {
        edge.made().bounds("count(#)", 0, 11);
        edge.laid("b1;").bounds("count(#)", 0, 11);
        // the least there can be, and the most
        counts(edge.laid("b1;", "wipe()"), 1, 0, 0, 0, 0, 1, 0, 0, 0, 0, 0, 0);
        counts(edge.laid("b1;", "tick(1)"), 1, 0, 0, 0, 0, 1, 1, 1, 0, 0, 1, 3);
        counts(edge.laid("b6;" + "l0,1;".repeat(9) + "p0,9,1,1;".repeat(6) + "f5,50,0;".repeat(9)),
                6, 9, 6, 9, 0, 5, 0, 0, 9, 450, 0, 174);
        counts(edge.laid("b6;" + "s4800,1;".repeat(5) + "p0,9,1,1;", "tick(60)", "tick(60)", "tick(60)", "tick(60)", "tick(60)"),
                6, 0, 1, 0, 5, 6, 5, 300, 0, 0, 4, 52);
        counts(edge.laid(MANY, "feeder(0, 0)", "link(0, 0)", "tick(2)"), 6, 3, 6, 9, 5, 4, 2, 2, 7, 25, 3,
                MANY.length());
        asks(edge, edge.made("tick(1)"), "count(9)");
    }

    private static void counts(Run x, int... want) {
        for (int what = 0; what < want.length; what++) {
            x.due("count(" + what + ")", want[what]);
        }
    }
}
