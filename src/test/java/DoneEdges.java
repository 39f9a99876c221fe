import java.util.List;

/** Boundary cases of what is done: terms 3, and promises 7 to 11. */
final class DoneEdges {
    private static final int BAD = ShedStages.BAD;
    private static final int NO = ShedStages.NO;
    private static final int NONE = ShedStages.NONE;

    /** BUS 1 lives on, the ISLAND of BUS 0 goes DARK with its first TICK, so does that of BUS 2, without PLANT. */
    private static final String DARK = "b3;l0,1;l1,2;p0,9,1,1;p0,1,1,1;p1,20,1,4;f0,50,0;f0,50,1;f1,20,0;f2,5,0;s4999,9;";
    private static final String[] GONE_DARK = {"link(0, 0)", "link(1, 0)", "tick(1)"};

    private DoneEdges() { }

    static void all(Edge edge) {
        edge.of("A LINK can be OPENED; CLOSED, if both ISLANDS are one, one of them is DARK,", DoneEdges::closedInside);
        edge.of("A LINK can be OPENED; CLOSED, if both ISLANDS are one, one of them is DARK,", DoneEdges::closedWithDark);
        edge.of("or their F are no more than 20 apart:", DoneEdges::apart);
        edge.of("F is then that of the one that is not DARK,", DoneEdges::frequencyOfLiving);
        edge.of("or F of each times its HEAVY, together, by both HEAVY, cut", DoneEdges::frequencyByHeavy);
        edge.of("(if neither is HEAVY: the lower F).", DoneEdges::lowerFrequency);
        edge.of("Dropped by hand is a FEEDER that is ON; one that is OFF is ON again by hand, if its ISLAND is not DARK",
                DoneEdges::byHand);
        edge.of("(it may have been dropped by whatever).", DoneEdges::droppedByWhatever);
        edge.of("A DARK ISLAND is BEGUN, if it has a PLANT:", DoneEdges::begunWithPlant);
        edge.of("F is 5000, all COUNTS are 0; its FEEDERS stay OFF.", DoneEdges::begunAnew);
        edge.of("A change: TICKS, a LINK, a FEEDER by hand, one BEGUN, a MARK told anew.", DoneEdges::changes);
        edge.of("A change: TICKS, a LINK, a FEEDER by hand, one BEGUN, a MARK told anew.", DoneEdges::noChanges);
        edge.of("UNDONE is the latest change (the last 4 can be;", DoneEdges::lastFour);
        edge.of("UNDONE is the latest change (the last 4 can be;", DoneEdges::changedBetween);
        edge.of("behind LAID none can be).", DoneEdges::behindLaid);
        promises(edge);
    }

    private static void promises(Edge edge) {
        edge.of("A LINK is CLOSED (is = 1), OPENED (0): how many ISLANDS there are. BAD;", DoneEdges::linkBounds);
        edge.of("A LINK is CLOSED (is = 1), OPENED (0): how many ISLANDS there are. BAD; NO: it is so, or it can not be.",
                DoneEdges::linkNo);
        edge.of("A FEEDER is ON again (is = 1), dropped (0) by hand: LOAD of its ISLAND then. BAD;", DoneEdges::feederBounds);
        edge.of("A FEEDER is ON again (is = 1), dropped (0) by hand: LOAD of its ISLAND then. BAD; "
                + "NO: it is so, or it can not be.", DoneEdges::feederNo);
        edge.of("The ISLAND of a BUS is BEGUN: HEAVY of it. BAD;", DoneEdges::beginBounds);
        edge.of("NO: it is not DARK, it has no PLANT.", DoneEdges::beginNo);
        edge.of("MARK of a STAGE (1 on; 4700 to 4999),", DoneEdges::markOfStage);
        edge.of("or of the way BACK (0; 4900 to 5000):", DoneEdges::markOfBack);
        edge.of("what it was. BAD;", DoneEdges::markWas);
        edge.of("NO: it is so.", DoneEdges::markNo);
        edge.of("UNDONE: how many more can be. NO.", DoneEdges::undoNo);
    }

    private static void closedInside(Edge edge) {
        Run x = edge.laid("b3;l0,1;l1,2;l0,2;p0,48,1,5;f0,49,0;", "tick(2)").due("link(1, 0)", 1).due("island(0, 1)", 4996);
        x.due("link(1, 1)", 1).due("island(0, 1)", 4996).due("isClosed(1)", 1);
        // in a DARK one
        edge.laid("b2;l0,1;l0,1;", "tick(1)").due("link(1, 0)", 1).due("link(1, 1)", 1).due("island(0, 1)", 0);
    }

    private static void closedWithDark(Edge edge) {
        Run x = edge.laid(DARK, GONE_DARK).due("island(0, 1)", 0).due("island(1, 1)", 5000).due("island(2, 1)", 0);
        x.again().due("link(0, 1)", 2).due("isClosed(0)", 1);
        x.again().due("link(1, 1)", 2).due("isClosed(1)", 1);
        // both DARK
        edge.laid("b2;l0,1;", "link(0, 0)", "tick(1)").due("count(6)", 2).due("link(0, 1)", 1).due("count(6)", 1);
    }

    /** BUS low is that much below 5000 (19 and more), the other one at 5000. */
    private static Run apartBy(Edge edge, int low, int apart) {
        int high = 1 - low;
        String rest = apart == 19 ? "" : "f" + low + "," + (apart - 19) + ",0;";
        Run x = edge.laid("b2;l0,1;p" + low + ",30,1,9;p" + low + ",1,1,1;p" + high + ",10,1,1;f" + low + ",50,0;" + rest
                + "f" + high + ",10,0;", "link(0, 0)", "tick(1)");
        return x.due("island(" + low + ", 1)", 5000 - apart).due("island(" + high + ", 1)", 5000);
    }

    private static void apart(Edge edge) {
        for (int low = 0; low <= 1; low++) {
            apartBy(edge, low, 19).due("link(0, 1)", 1);
            apartBy(edge, low, 20).due("link(0, 1)", 1);
            apartBy(edge, low, 21).refused("link(0, 1)", NO).due("isClosed(0)", 0);
            apartBy(edge, low, 22).refused("link(0, 1)", NO);
            apartBy(edge, low, 60).refused("link(0, 1)", NO);
        }
        edge.laid("b2;l0,1;", "link(0, 0)").due("link(0, 1)", 1);
    }

    private static void frequencyOfLiving(Edge edge) {
        // F of BUS 1 is 4980: GIVEN 20, LOAD 28, HEAVY 4
        String text = DARK.replace("f1,20,0;", "f1,28,0;");
        Run x = edge.laid(text, GONE_DARK).due("island(1, 1)", 4980);
        x.again().does("link(0, 1)").due("island(0, 1)", 4980).due("island(0, 5)", 6).due("count(6)", 1);
        x.again().does("link(1, 1)").due("island(1, 1)", 4980).due("count(6)", 1);
        x.again().does("link(0, 1)", "link(1, 1)").due("island(0, 1)", 4980).due("count(6)", 0);
        // FEEDERS stay OFF, PLANTS give nothing
        x.does("link(0, 1)").due("isOn(0)", 0).due("isOn(1)", 0).due("isOn(2)", 1).due("plant(0)", 0).due("plant(2)", 20);
        edge.laid("b2;l0,1;p0,1,1,1;f0,50,0;", "link(0, 0)", "tick(1)", "link(0, 1)").due("island(0, 1)", 0);
    }

    private static void frequencyByHeavy(Edge edge) {
        for (int low = 0; low <= 1; low++) {
            // 49810 and 5000 by 11; 49800 and 5000 by 11
            apartBy(edge, low, 19).does("link(0, 1)").due("island(0, 1)", 4982);
            apartBy(edge, low, 20).does("link(0, 1)").due("island(0, 1)", 4981);
        }
        edge.laid("b2;l0,1;p0,9,1,9;p1,9,1,1;", "link(0, 0)", "link(0, 1)").due("island(0, 1)", 5000);
        // one of them without PLANT: F of the other one, be it higher or lower
        Run x = edge.laid("b3;l0,1;l1,2;p0,20,9,2;p2,20,9,2;f0,21,0;f2,20,0;", "link(1, 0)", "tick(1)", "link(0, 0)");
        x.due("island(0, 1)", 4995).due("island(1, 1)", 4995).due("island(2, 1)", 5000);
        x.does("link(1, 1)").due("island(1, 1)", 5000);
        Run y = edge.laid("b3;l0,1;l1,2;p0,20,9,2;p2,20,9,2;f0,20,0;f2,21,0;", "link(1, 0)", "tick(1)", "link(0, 0)");
        y.due("island(1, 1)", 5000).due("island(2, 1)", 4995).does("link(1, 1)").due("island(1, 1)", 4995);
    }

    /** BUSES 1 and 3 without PLANT, one of them (low) that much below 5000. */
    private static Run withoutPlants(Edge edge, int low, int apart) {
        int from = low - 1;
        int to = 2 - from;
        Run x = edge.laid("b4;l0,1;l2,3;l1,3;p" + from + ",30,1,9;p" + from + ",1,1,1;p" + to + ",10,1,1;f" + from
                + ",50,0;f" + from + "," + (apart - 19) + ",0;f" + to + ",10,0;",
                "link(2, 0)", "tick(1)", "link(0, 0)", "link(1, 0)");
        return x.due("island(" + low + ", 1)", 5000 - apart).due("island(" + (4 - low) + ", 1)", 5000)
                .due("island(1, 5)", 0).due("island(3, 5)", 0);
    }

    private static void lowerFrequency(Edge edge) {
        for (int low = 1; low <= 3; low += 2) {
            withoutPlants(edge, low, 20).due("link(2, 1)", 3).due("island(1, 1)", 4980).due("island(1, 0)", 10);
            withoutPlants(edge, low, 21).refused("link(2, 1)", NO);
        }
        edge.laid("b2;l0,1;", "link(0, 0)").due("link(0, 1)", 1).due("island(0, 1)", 5000);
    }

    private static void byHand(Edge edge) {
        Run x = edge.laid("b1;p0,1,1,1;f0,1,0;f0,50,5;");
        x.due("feeder(0, 0)", 50).due("isOn(0)", 0).due("dropped(0)", 0).due("feeder(1, 0)", 0).due("dropped(0)", 1);
        // CAP is no bound by hand
        x.due("feeder(1, 1)", 50).due("isOn(1)", 1).due("dropped(0)", 0).due("dropped(1)", NONE).due("feeder(0, 1)", 51);
        x.due("dropped(0)", NONE);
        // in a DARK one neither can be
        Run y = edge.laid(DARK, GONE_DARK).refused("feeder(0, 1)", NO).refused("feeder(0, 0)", NO).refused("feeder(3, 1)", NO);
        // an ISLAND without PLANT that is not DARK yet
        edge.laid("b1;f0,9,0;").due("feeder(0, 0)", 0).due("feeder(0, 1)", 9).does("tick(1)").refused("feeder(0, 1)", NO);
        y.due("feeder(2, 0)", 0).due("feeder(2, 1)", 20);
    }

    private static void droppedByWhatever(Edge edge) {
        // by a STAGE
        edge.laid("b1;p0,40,1,1;f0,41,1;s4999,1;", "tick(1)").due("isOn(0)", 0).due("feeder(0, 1)", 41);
        // as it went DARK: when it is BEGUN, or joined with another one
        edge.laid(DARK, GONE_DARK).does("begin(0)").due("feeder(1, 1)", 50).due("feeder(0, 1)", 100);
        edge.laid(DARK, GONE_DARK).does("link(1, 1)").due("feeder(3, 1)", 25);
        // by hand, ahead of it
        edge.laid(DARK, "feeder(0, 0)").does(GONE_DARK).does("tick(1)", "begin(0)").due("feeder(0, 1)", 50);
    }

    private static void begunWithPlant(Edge edge) {
        Run x = edge.laid(DARK, GONE_DARK).refused("begin(2)", NO).refused("begin(1)", NO).due("begin(0)", 2);
        x.due("island(0, 1)", 5000).refused("begin(0)", NO);
        // by a LINK it gets a PLANT: that one's F
        edge.laid(DARK, GONE_DARK).does("link(1, 1)").refused("begin(2)", NO);
        // two DARK ones, one of them with a PLANT
        edge.laid("b2;l0,1;p1,1,1,6;f1,50,0;", "link(0, 0)", "tick(60)").refused("begin(0)", NO).does("link(0, 1)")
                .due("begin(0)", 6);
    }

    private static void begunAnew(Edge edge) {
        // F falls by 100 a TICK: 4700 behind three
        Run x = edge.laid("b2;p0,9,1,2;f0,9,0;p1,40,1,1;f1,50,0;s4999,9;s4850,9;r4900,9;", "tick(4)");
        x.due("counted(1, 1)", 3).due("counted(1, 2)", 2).due("island(1, 1)", 0).due("counted(0, 0)", 4);
        x.due("begin(1)", 1).due("island(1, 1)", 5000).due("counted(1, 1)", 0).due("counted(1, 2)", 0).due("isOn(1)", 0);
        x.due("island(1, 3)", 0).due("island(1, 6)", 0).due("island(1, 7)", 1).due("dropped(0)", 1);
        // the other one stays as it is
        x.due("counted(0, 0)", 4).due("isOn(0)", 1);
        // the COUNT of the way BACK is 0, too; nothing but the next TICK begins it anew
        Run y = edge.laid("b2;l0,1;p0,9,1,1;p1,1,1,1;f1,50,0;r4900,9;", "feeder(0, 0)", "tick(5)", "feeder(0, 1)",
                "link(0, 0)", "tick(1)");
        y.due("island(1, 1)", 0).due("counted(1, 0)", 5).does("begin(1)").due("counted(1, 0)", 0);
        y.does("tick(1)").due("counted(1, 0)", 1).due("island(1, 1)", 5000);
    }

    private static void changes(Edge edge) {
        String[] ahead = {"link(0, 0)", "link(1, 0)", "tick(1)"};
        for (String change : new String[] {"tick(1)", "tick(60)", "link(0, 1)", "link(1, 1)", "feeder(2, 0)", "begin(0)",
            "mark(1, 4700)", "mark(0, 5000)"}) {
            Run x = edge.laid(DARK, ahead).due("count(10)", 3);
            List<Integer> before = x.seen();
            x.does(change).due("count(10)", 4);
            edge.holds(change + " is seen", !x.seen().equals(before));
            x.due("undo()", 3);
            edge.holds(change + " is UNDONE", x.seen().equals(before));
        }
        // OPENED, and ON again by hand
        for (String change : new String[] {"link(0, 0)", "link(1, 0)", "feeder(0, 1)"}) {
            Run x = edge.laid(DARK, "feeder(0, 0)", "tick(1)").due("count(10)", 2);
            List<Integer> before = x.seen();
            x.does(change).due("count(10)", 3);
            edge.holds(change + " is seen", !x.seen().equals(before));
            x.due("undo()", 2);
            edge.holds(change + " is UNDONE", x.seen().equals(before));
        }
    }

    private static void noChanges(Edge edge) {
        Run x = edge.laid(DARK, "tick(1)").due("count(10)", 1);
        x.does("write(98)", "wipe()", "count(0)", "at(0)", "plant(0)", "isOn(0)", "isClosed(0)", "counted(0, 0)",
                "island(0, 1)", "ahead(60, 0, 0)");
        x.call("least(0, 30, 0)");
        x.call("dark(0)");
        x.call("dropped(0)");
        x.call("fault()");
        x.call("lay()");
        x.due("count(10)", 1);
        // told again, or closed again, nothing is told anew
        x.refused("mark(1, 4999)", NO).refused("link(0, 1)", NO).refused("feeder(0, 1)", NO).refused("begin(1)", NO);
        x.due("undo()", 0).refused("undo()", NO);
    }

    /** So many changes, one behind the other: four can be UNDONE, and not the one ahead of them. */
    private static void lastFour(Edge edge) {
        for (int many = 0; many <= 13; many++) {
            Run x = edge.made();
            for (int k = 1; k <= many; k++) {
                x.does("mark(1, " + (4700 + k) + ")").due("count(10)", Math.min(4, k));
            }
            int can = Math.min(4, many);
            for (int k = 1; k <= can; k++) {
                x.due("undo()", can - k).due("count(10)", can - k);
                int stands = many == k ? 4900 : 4700 + many - k;
                x.again().refused("mark(1, " + stands + ")", NO).due("mark(1, 4999)", stands);
            }
            x.refused("undo()", NO);
        }
    }

    /** Changes and UNDONE ones by turns. */
    private static void changedBetween(Edge edge) {
        Run x = edge.made("feeder(0, 0)", "feeder(1, 0)", "feeder(2, 0)", "feeder(3, 0)");
        x.due("undo()", 3).due("undo()", 2).due("isOn(2)", 1).due("isOn(1)", 0).does("mark(1, 4800)", "mark(2, 4800)");
        x.due("count(10)", 4).does("mark(3, 4700)").due("count(10)", 4);
        x.due("undo()", 3).due("undo()", 2).due("undo()", 1).due("count(8)", 2).due("undo()", 0).due("count(8)", 3);
        x.due("isOn(0)", 0).refused("undo()", NO).does("feeder(0, 1)").due("undo()", 0).due("isOn(0)", 0);
        // all TICKS of a call are one change
        edge.made("link(0, 0)", "tick(60)").due("undo()", 1).due("count(7)", 0).due("island(0, 1)", 5000);
    }

    private static void behindLaid(Edge edge) {
        edge.made().refused("undo()", NO);
        edge.laid("b1;").refused("undo()", NO);
        Run x = edge.made("tick(1)", "tick(1)", "tick(1)", "tick(1)").tell("b2;").does("lay()").due("count(10)", 0);
        x.refused("undo()", NO).does("tick(1)").due("undo()", 0).refused("undo()", NO).due("count(0)", 2);
        // one that is not LAID leaves them as they are
        edge.made("tick(1)", "tick(1)").tell("b").refused("lay()", NO).due("undo()", 1).due("undo()", 0);
    }

    private static void linkBounds(Edge edge) {
        edge.made().bounds("link(#, 0)", 0, 1).bounds("link(0, #)", 0, 1).bounds("link(1, #)", 0, 1);
        edge.made("link(0, 0)").bounds("link(#, 1)", 0, 1).bounds("link(0, #)", 0, 1);
        edge.laid("b2;" + "l0,1;".repeat(9)).bounds("link(#, 0)", 0, 8);
        edge.laid("b2;").refused("link(0, 0)", BAD).refused("link(0, 1)", BAD);
        Run x = edge.laid("b6;l0,1;l1,2;l2,3;l3,4;l4,5;");
        for (int l = 0; l < 5; l++) {
            x.due("link(" + l + ", 0)", l + 2);
        }
        for (int l = 0; l < 5; l++) {
            x.due("link(" + l + ", 1)", 5 - l);
        }
    }

    private static void linkNo(Edge edge) {
        edge.made().refused("link(0, 1)", NO).refused("link(1, 1)", NO);
        edge.made("link(0, 0)").refused("link(0, 0)", NO).refused("link(1, 1)", NO);
        edge.made("link(0, 0)", "tick(1)").refused("link(0, 1)", NO).refused("link(0, 0)", NO);
    }

    private static void feederBounds(Edge edge) {
        edge.made().bounds("feeder(#, 0)", 0, 3).bounds("feeder(0, #)", 0, 1).bounds("feeder(3, #)", 0, 1);
        edge.made("feeder(2, 0)").bounds("feeder(#, 1)", 0, 3).bounds("feeder(2, #)", 0, 1);
        edge.laid("b2;" + "f0,1,1;".repeat(9)).bounds("feeder(#, 0)", 0, 8);
        edge.laid("b2;").refused("feeder(0, 0)", BAD).refused("feeder(0, 1)", BAD);
        // in a DARK one, too
        edge.laid(DARK, GONE_DARK).bounds("feeder(#, 1)", 0, 3).bounds("feeder(0, #)", 0, 1);
        // LOAD of its own ISLAND
        edge.made("link(0, 0)").due("feeder(0, 0)", 0).due("feeder(3, 0)", 40).due("feeder(0, 1)", 20);
    }

    private static void feederNo(Edge edge) {
        edge.made().refused("feeder(0, 1)", NO).refused("feeder(3, 1)", NO);
        edge.made("feeder(0, 0)", "feeder(3, 0)").refused("feeder(0, 0)", NO).refused("feeder(3, 0)", NO)
                .refused("feeder(1, 1)", NO);
        edge.laid(DARK, GONE_DARK).refused("feeder(0, 1)", NO).refused("feeder(0, 0)", NO);
    }

    private static void beginBounds(Edge edge) {
        edge.made().bounds("begin(#)", 0, 2);
        edge.laid(DARK, GONE_DARK).bounds("begin(#)", 0, 2);
        edge.laid("b6;", "tick(1)").bounds("begin(#)", 0, 5);
        edge.laid("b1;p0,1,1,1;f0,50,0;", "tick(1)").bounds("begin(#)", 0, 0).due("begin(0)", 1);
        edge.laid("b2;l0,1;" + "p1,1,1,9;".repeat(6) + "f0,50,0;".repeat(9), "tick(60)").due("count(6)", 1)
                .due("begin(0)", 54);
    }

    private static void beginNo(Edge edge) {
        edge.made().refused("begin(0)", NO).refused("begin(2)", NO);
        edge.laid("b1;").refused("begin(0)", NO).does("tick(1)").refused("begin(0)", NO);
        edge.laid(DARK, GONE_DARK).refused("begin(1)", NO).refused("begin(2)", NO);
    }

    private static void markOfStage(Edge edge) {
        Run x = edge.made("mark(1, 4701)");
        x.bounds("mark(1, #)", 4700, 4999).bounds("mark(3, #)", 4700, 4999).bounds("mark(#, 4950)", 0, 3);
        x.due("mark(1, 4700)", 4701).due("mark(1, 4999)", 4700).due("mark(1, 4700)", 4999);
        edge.laid("b1;" + "s4800,1;".repeat(5)).bounds("mark(#, 4950)", 0, 5).bounds("mark(5, #)", 4700, 4999);
        edge.laid("b1;").bounds("mark(#, 4950)", 0, 0);
        // a STAGE's MARKS are not those of the way BACK
        edge.made().refused("mark(1, 5000)", BAD).refused("mark(0, 4899)", BAD).refused("mark(0, 4700)", BAD);
    }

    private static void markOfBack(Edge edge) {
        edge.made().bounds("mark(0, #)", 4900, 5000);
        edge.laid("b1;").bounds("mark(0, #)", 4900, 5000).due("mark(0, 4900)", 4980).due("mark(0, 5000)", 4900);
    }

    private static void markWas(Edge edge) {
        Run x = edge.made().due("mark(0, 4990)", 4980).due("mark(1, 4990)", 4900).due("mark(2, 4990)", 4850);
        x.due("mark(3, 4990)", 4800).due("mark(0, 4980)", 4990).due("mark(3, 4800)", 4990);
        // it counts from the next TICK on: F is 4998, then 4997
        Run y = edge.laid("b1;p0,49,1,9;p0,1,1,1;f0,50,0;f0,1,1;s4998,1;r5000,9;", "tick(2)").due("counted(0, 1)", 0);
        y.does("mark(1, 4997)").due("tick(1)", 0).does("mark(1, 4998)").due("tick(1)", 1);
    }

    private static void markNo(Edge edge) {
        edge.made().refused("mark(0, 4980)", NO).refused("mark(1, 4900)", NO).refused("mark(2, 4850)", NO)
                .refused("mark(3, 4800)", NO);
        edge.made("mark(1, 4901)").refused("mark(1, 4901)", NO).due("mark(1, 4900)", 4901);
    }

    private static void undoNo(Edge edge) {
        edge.made().refused("undo()", NO);
        edge.made("tick(1)").due("undo()", 0).refused("undo()", NO);
        edge.made("tick(1)", "tick(1)", "tick(1)", "tick(1)").due("undo()", 3).due("undo()", 2).due("undo()", 1)
                .due("undo()", 0).refused("undo()", NO).due("count(7)", 0);
        edge.made("tick(1)", "tick(1)", "tick(1)", "tick(1)", "tick(1)").due("undo()", 3).due("undo()", 2).due("undo()", 1)
                .due("undo()", 0).refused("undo()", NO).due("count(7)", 1);
    }
}
