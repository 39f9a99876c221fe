/** Boundary cases of ISLANDS and TICKS: terms 2, and promise 6. */
final class TickEdges {
    private static final int BAD = ShedStages.BAD;
    private static final int NO = ShedStages.NO;
    private static final int NONE = ShedStages.NONE;

    /** PLANTS of CAP 50 and HEAVY 10 in all: F changes by just what is given too much. */
    private static final String TEN = "b1;p0,49,1,9;p0,1,1,1;";

    private TickEdges() { }

    static void all(Edge edge) {
        edge.of("An ISLAND is all BUSES that CLOSED LINKS join, directly or by others;", TickEdges::islands);
        edge.of("ISLANDS are numbered by their lowest BUSES, rising.", TickEdges::numbered);
        edge.of("It has a FREQUENCY F (5000 at first) or is DARK (F is 0).", TickEdges::frequency);
        edge.of("LOAD of it: that of its FEEDERS that are ON, together; GIVEN: what its PLANTS give, together; "
                + "CAP, HEAVY likewise.", TickEdges::sums);
        edge.of("LAID, all FEEDERS are ON, PLANTS give nothing but: PLANTS of each ISLAND, 0 first, "
                + "give what they can, till GIVEN is LOAD.", TickEdges::givenWhenLaid);
        edge.of("A TICK, of each ISLAND, the lowest first, that is not DARK:", TickEdges::lowestFirst);
        edge.of("A TICK, of each ISLAND, the lowest first, that is not DARK:", TickEdges::noTickOfDark);
        edge.of("AIM is LOAD, and (5000 less F) by 20, cut towards 0, together.", TickEdges::aim);
        edge.of("If GIVEN is below AIM, each PLANT, the lowest first, gives more: by its PACE at most,", TickEdges::paceAtMost);
        edge.of("by its CAP at most,", TickEdges::capAtMost);
        edge.of("till GIVEN is AIM;", TickEdges::tillAim);
        edge.of("if above, less, likewise (0 at least).", TickEdges::less);
        edge.of("if above, less, likewise (0 at least).", TickEdges::noughtAtLeast);
        edge.of("F becomes F, and 10 times (GIVEN less LOAD) by HEAVY, cut towards 0, together,", TickEdges::cut);
        edge.of("5200 at most.", TickEdges::highest);
        edge.of("Is it below 4700 then,", TickEdges::lowest);
        edge.of("or is there no PLANT, it goes DARK:", TickEdges::noPlant);
        edge.of("F is 0, its FEEDERS are OFF (those that were ON are dropped, the lowest first), its PLANTS give nothing",
                TickEdges::goesDark);
        edge.of("(COUNTS stay as they are).", TickEdges::countsOfDark);
        edge.of("Else, for each STAGE, 1 first:", TickEdges::stagesInOrder);
        edge.of("is F below MARK, its COUNT is 1 more, else 0;", TickEdges::belowMark);
        edge.of("is it WAIT or more, FEEDERS of that STAGE that are ON are dropped, the lowest first,", TickEdges::waitOfStage);
        edge.of("and if there were any, COUNT is 0.", TickEdges::ifThereWereAny);
        edge.of("Then, by the way BACK: is F MARK or more, the COUNT of that is 1 more, else 0;", TickEdges::backAtMark);
        edge.of("is it WAIT or more, of its FEEDERS that were dropped the latest", TickEdges::backWait);
        edge.of("is it WAIT or more, of its FEEDERS that were dropped the latest", TickEdges::backLatest);
        edge.of("whose LOAD and LOAD of the ISLAND are CAP or less together is ON again;", TickEdges::backFits);
        edge.of("COUNT is 0 then, if there is one.", TickEdges::backCount);
        edge.of("COUNTS are had by each ISLAND; where one is parted, each has those of it;", TickEdges::parted);
        edge.of("where two are joined, all are 0,", TickEdges::joined);
        edge.of("but where one of them was DARK (those of the other one then;", TickEdges::joinedWithDark);
        edge.of("0, if both were).", TickEdges::joinedBothDark);
        edge.of("n TICKS (1 to 60) go by:", TickEdges::tickBounds);
        edge.of("how many FEEDERS were dropped in them. BAD;", TickEdges::tickDrops);
        edge.of("NO: there would be more than 9999.", TickEdges::ticksAtMost);
    }

    private static void islands(Edge edge) {
        Run alone = edge.laid("b6;").due("count(5)", 6);
        for (int i = 0; i < 6; i++) {
            alone.due("island(" + i + ", 0)", 1 << i);
        }
        Run chain = edge.laid("b6;l5,4;l4,3;l3,2;l2,1;l1,0;").due("count(5)", 1).due("island(0, 0)", 63);
        chain.due("link(2, 0)", 2).due("island(0, 0)", 7).due("island(1, 0)", 56);
        Run mixed = edge.laid("b6;l0,5;l5,1;l1,4;l4,2;l2,3;").due("count(5)", 1).due("island(0, 0)", 63);
        mixed.due("link(4, 0)", 2).due("island(1, 0)", 8);
        // a ring hangs together without any one of its LINKS, not without two
        Run ring = edge.laid("b6;l0,1;l1,2;l2,3;l3,4;l4,5;l5,0;").due("link(3, 0)", 1).due("link(5, 0)", 2);
        ring.due("island(0, 0)", 15).due("island(1, 0)", 48);
    }

    private static void numbered(Edge edge) {
        Run x = edge.laid("b6;l5,1;l2,4;").due("count(5)", 4);
        int[] at = {0, 1, 2, 3, 2, 1};
        for (int b = 0; b < 6; b++) {
            x.due("at(" + b + ")", at[b]);
        }
        x.due("link(0, 0)", 5).due("at(1)", 1).due("at(3)", 3).due("at(5)", 4).due("island(4, 0)", 32);
        x.refused("island(5, 0)", BAD).due("link(0, 1)", 4).due("at(5)", 1).refused("island(4, 0)", BAD);
    }

    private static void frequency(Edge edge) {
        Run x = edge.laid("b3;p0,9,1,1;f0,9,0;f1,9,0;");
        for (int i = 0; i < 3; i++) {
            x.due("island(" + i + ", 1)", 5000);
        }
        x.does("tick(1)").due("island(0, 1)", 5000).due("island(1, 1)", 0).due("island(2, 1)", 0).due("count(6)", 2);
    }

    private static void sums(Edge edge) {
        Run x = edge.laid("b3;p0,99,1,9;p0,98,1,8;f1,50,0;f1,49,0;f1,1,0;");
        x.due("island(0, 2)", 0).due("island(0, 3)", 0).due("island(0, 4)", 197).due("island(0, 5)", 17);
        x.due("island(1, 2)", 100).due("island(1, 3)", 0).due("island(1, 4)", 0).due("island(1, 5)", 0);
        for (int what = 2; what <= 7; what++) {
            x.due("island(2, " + what + ")", 0);
        }
        x.does("feeder(1, 0)").due("island(1, 2)", 51).does("feeder(0, 0)", "feeder(2, 0)").due("island(1, 2)", 0);
        edge.laid("b1;" + "p0,99,9,9;".repeat(6) + "f0,50,5;".repeat(9)).due("island(0, 2)", 450)
                .due("island(0, 3)", 450).due("island(0, 4)", 594).due("island(0, 5)", 54);
    }

    private static void givenWhenLaid(Edge edge) {
        String text = "b1;p0,30,1,1;p0,20,1,1;p0,9,1,1;";
        givenWhenLaid(edge, text, 0, 0, 0);
        givenWhenLaid(edge, text + "f0,1,0;", 1, 0, 0);
        givenWhenLaid(edge, text + "f0,29,0;", 29, 0, 0);
        givenWhenLaid(edge, text + "f0,30,0;", 30, 0, 0);
        givenWhenLaid(edge, text + "f0,31,0;", 30, 1, 0);
        givenWhenLaid(edge, text + "f0,50,0;", 30, 20, 0);
        givenWhenLaid(edge, text + "f0,50,0;f0,1,0;", 30, 20, 1);
        givenWhenLaid(edge, text + "f0,50,0;f0,9,0;", 30, 20, 9);
        givenWhenLaid(edge, text + "f0,50,0;f0,10,0;", 30, 20, 9);
        // LOAD of another ISLAND is none of theirs
        givenWhenLaid(edge, "b2;p0,30,1,1;p1,20,1,1;p0,9,1,1;f0,32,0;f1,21,0;", 30, 20, 2);
        Run x = edge.laid(text + "f0,50,5;f0,50,0;").due("isOn(0)", 1).due("isOn(1)", 1).due("count(8)", 2);
        x.does("feeder(0, 0)", "lay()").due("isOn(0)", 1);
    }

    private static void givenWhenLaid(Edge edge, String text, int... gives) {
        Run x = edge.laid(text);
        for (int p = 0; p < gives.length; p++) {
            x.due("plant(" + p + ")", gives[p]);
        }
    }

    private static void lowestFirst(Edge edge) {
        Run x = edge.laid("b3;f2,1,0;f0,1,0;f1,1,0;f0,2,0;").due("tick(1)", 4);
        x.due("dropped(0)", 0).due("dropped(1)", 2).due("dropped(2)", 3).due("dropped(3)", 1).due("dropped(4)", NONE);
        // by a STAGE, too: the FEEDER of BUS 1 is lower, that of BUS 0 is dropped first
        Run y = edge.laid("b2;f1,9,1;f0,9,1;p0,8,1,5;p1,8,1,5;s4999,1;").due("tick(1)", 2);
        y.due("dropped(0)", 0).due("dropped(1)", 1);
    }

    private static void noTickOfDark(Edge edge) {
        Run x = edge.laid("b2;p0,9,1,1;f0,9,0;p1,30,1,1;f1,50,1;s4999,9;r4900,1;", "tick(2)");
        x.due("island(1, 1)", 0).due("counted(1, 1)", 1).due("counted(0, 0)", 2);
        x.due("tick(60)", 0).due("count(7)", 62).due("counted(0, 0)", 62);
        x.due("island(1, 1)", 0).due("counted(1, 1)", 1).due("counted(1, 0)", 0).due("plant(1)", 0).due("isOn(1)", 0);
    }

    private static void aim(Edge edge) {
        edge.laid("b1;p0,50,1,1;f0,50,0;").due("island(0, 8)", 50);
        int[][] below = {{19, 4981, 0}, {20, 4980, 1}, {39, 4961, 1}, {40, 4960, 2}};
        for (int[] row : below) {
            int load = 10 + row[0];
            edge.laid("b1;p0,9,1,9;p0,1,1,1;f0," + load + ",0;", "tick(1)").due("island(0, 1)", row[1])
                    .due("island(0, 8)", load + row[2]);
        }
        int[][] above = {{20, 5019, 0}, {21, 5020, -1}, {40, 5039, -1}, {41, 5040, -2}};
        for (int[] row : above) {
            edge.laid("b1;p0,99,1,9;p0,1,1,1;f0,10,0;f0," + row[0] + ",0;", "feeder(1, 0)", "tick(1)")
                    .due("island(0, 1)", row[1]).due("island(0, 8)", 10 + row[2]);
        }
        // F is 4700 and 5200: the lowest and the highest one
        edge.laid("b1;p0,20,1,1;f0,50,0;", "tick(1)").due("island(0, 1)", 4700).due("island(0, 8)", 65);
        edge.laid("b1;p0,50,1,1;f0,50,0;", "feeder(0, 0)", "tick(1)").due("island(0, 1)", 5200).due("island(0, 8)", -10);
    }

    /** BUS 1 parted from the one that gave all: its PLANTS begin at nothing, its AIM is its LOAD. */
    private static Run risen(Edge edge, String plants, int load) {
        return edge.laid("b2;l0,1;p0,99,9,9;" + plants + "f1," + load + ",0;", "link(0, 0)").due("plant(1)", 0)
                .does("tick(1)");
    }

    private static void paceAtMost(Edge edge) {
        risen(edge, "p1,50,5,9;", 4).due("plant(1)", 4);
        risen(edge, "p1,50,5,9;", 5).due("plant(1)", 5);
        risen(edge, "p1,50,5,9;", 6).due("plant(1)", 5);
        risen(edge, "p1,50,5,9;p1,50,3,9;", 5).due("plant(1)", 5).due("plant(2)", 0);
        risen(edge, "p1,50,5,9;p1,50,3,9;", 6).due("plant(1)", 5).due("plant(2)", 1);
        risen(edge, "p1,50,5,9;p1,50,3,9;", 8).due("plant(1)", 5).due("plant(2)", 3);
        risen(edge, "p1,50,5,9;p1,50,3,9;", 9).due("plant(1)", 5).due("plant(2)", 3);
    }

    private static void capAtMost(Edge edge) {
        risen(edge, "p1,8,9,9;", 20).due("plant(1)", 8).does("tick(1)").due("plant(1)", 8);
        risen(edge, "p1,9,9,9;", 20).due("plant(1)", 9).does("tick(1)").due("plant(1)", 9);
        risen(edge, "p1,10,9,9;", 20).due("plant(1)", 9).does("tick(1)").due("plant(1)", 10);
        // what the first can not give any more is the next one's
        risen(edge, "p1,8,9,9;p1,8,9,9;", 20).due("plant(1)", 8).due("plant(2)", 8);
        risen(edge, "p1,8,9,9;p1,8,9,9;", 9).due("plant(1)", 8).due("plant(2)", 1);
    }

    private static void tillAim(Edge edge) {
        edge.made("tick(60)").due("plant(0)", 60).due("plant(1)", 10).due("island(0, 1)", 5000);
        risen(edge, "p1,50,9,9;", 4).due("plant(1)", 4).due("island(1, 1)", 5000).does("tick(9)").due("plant(1)", 4);
        // F is 4980: AIM is one more than LOAD
        Run x = edge.laid("b2;l0,1;p0,99,9,9;p1,50,2,9;p1,9,9,1;f1,31,0;", "link(0, 0)", "tick(1)");
        x.due("plant(1)", 2).due("plant(2)", 9).due("island(1, 1)", 4980).due("island(1, 8)", 32);
    }

    private static void less(Edge edge) {
        int[][] rows = {{4, 10}, {5, 10}, {6, 11}, {7, 12}};
        for (int[] row : rows) {
            edge.laid("b1;p0,50,5,9;f0,10,0;f0," + row[0] + ",0;", "feeder(1, 0)", "tick(1)").due("plant(0)", row[1]);
        }
        // the first gives 12, the next one the rest
        int[][] both = {{5, 7, 3}, {6, 7, 3}, {8, 7, 3}, {9, 7, 4}};
        for (int[] row : both) {
            edge.laid("b1;p0,12,5,9;p0,50,3,9;f0,10,0;f0," + row[0] + ",0;", "feeder(1, 0)", "tick(1)")
                    .due("plant(0)", row[1]).due("plant(1)", row[2]);
        }
    }

    private static void noughtAtLeast(Edge edge) {
        edge.laid("b1;p0,8,9,9;f0,8,0;", "feeder(0, 0)", "tick(1)").due("plant(0)", 0);
        edge.laid("b1;p0,9,9,9;f0,9,0;", "feeder(0, 0)", "tick(1)").due("plant(0)", 0);
        edge.laid("b1;p0,10,9,9;f0,10,0;", "feeder(0, 0)", "tick(1)").due("plant(0)", 1);
        // AIM is 10 below 0
        Run x = edge.laid("b1;p0,50,9,1;f0,50,0;r5000,9;", "feeder(0, 0)", "tick(5)");
        x.due("plant(0)", 5).does("tick(1)").due("plant(0)", 0).due("island(0, 8)", -10).does("tick(1)").due("plant(0)", 0);
    }

    private static void cut(Edge edge) {
        // 1 and 2 too little by HEAVY 11
        edge.laid("b1;p0,8,1,9;p0,1,1,2;f0,10,0;", "tick(60)").due("island(0, 1)", 5000);
        edge.laid("b1;p0,7,1,9;p0,1,1,2;f0,10,0;", "tick(1)").due("island(0, 1)", 4999);
        // 1 and 2 too much by HEAVY 11
        String text = "b1;p0,20,1,9;p0,1,1,2;f0,10,0;f0,";
        edge.laid(text + "2,0;", "feeder(1, 0)", "tick(1)").due("island(0, 3)", 11).due("island(0, 1)", 5000);
        edge.laid(text + "3,0;", "feeder(1, 0)", "tick(1)").due("island(0, 3)", 12).due("island(0, 1)", 5001);
        // just as much
        edge.laid("b1;p0,10,1,1;f0,10,0;", "tick(60)").due("island(0, 1)", 5000);
        // the least and the most HEAVY
        edge.laid("b1;p0,9,1,1;f0,10,0;", "tick(1)").due("island(0, 1)", 4990);
        edge.laid("b1;" + "p0,1,1,9;".repeat(6) + "f0,12,0;", "tick(1)").due("island(0, 1)", 4999);
        edge.laid("b1;" + "p0,1,1,9;".repeat(6) + "f0,11,0;", "tick(1)").due("island(0, 1)", 5000);
    }

    private static void highest(Edge edge) {
        int[][] rows = {{2, 5199, -9}, {3, 5200, -10}, {4, 5200, -10}, {50, 5200, -10}};
        for (int[] row : rows) {
            Run x = edge.laid("b1;p0,99,1,8;p0,99,1,1;p0,99,1,1;" + "f0,50,0;".repeat(4) + "f0," + row[0] + ",0;",
                    "feeder(0, 0)", "feeder(1, 0)", "feeder(2, 0)", "feeder(3, 0)", "feeder(4, 0)", "tick(1)");
            x.due("island(0, 3)", 197 + row[0]).due("island(0, 1)", row[1]).due("island(0, 8)", row[2]);
            x.does("tick(1)").due("island(0, 1)", 5200);
        }
    }

    private static void lowest(Edge edge) {
        String feeders = "f0,50,0;".repeat(6);
        edge.laid(TEN + feeders + "f0,49,0;").due("tick(1)", 0).due("island(0, 1)", 4701);
        edge.laid(TEN + feeders + "f0,50,0;").due("tick(1)", 0).due("island(0, 1)", 4700).due("count(6)", 0)
                .due("tick(1)", 7).due("island(0, 1)", 0);
        edge.laid(TEN + feeders + "f0,50,0;f0,1,0;").due("tick(1)", 8).due("island(0, 1)", 0).due("count(6)", 1);
        // from 4700 on: nothing less is not below, 1 less is
        Run x = edge.laid(TEN + feeders + "f0,50,0;r5000,9;", "tick(1)");
        for (int f = 1; f <= 6; f++) {
            x.does("feeder(" + f + ", 0)");
        }
        x.due("island(0, 2)", 50).due("island(0, 3)", 50).due("tick(60)", 0).due("island(0, 1)", 4700);
        Run y = edge.laid(TEN + feeders + "f0,49,0;f0,1,0;r5000,9;", "tick(1)");
        for (int f = 1; f <= 6; f++) {
            y.does("feeder(" + f + ", 0)");
        }
        y.due("island(0, 2)", 51).due("tick(1)", 2).due("island(0, 1)", 0);
        // far below: as far as can be
        edge.laid("b1;p0,1,1,1;" + "f0,50,0;".repeat(9)).due("tick(1)", 9).due("island(0, 1)", 0);
    }

    private static void noPlant(Edge edge) {
        edge.laid("b1;").due("island(0, 1)", 5000).due("tick(1)", 0).due("island(0, 1)", 0).due("count(6)", 1);
        edge.laid("b1;f0,1,0;").due("tick(1)", 1).due("island(0, 1)", 0);
        edge.laid("b1;f0,1,0;", "feeder(0, 0)").due("tick(1)", 0).due("island(0, 1)", 0);
        edge.laid("b1;p0,1,1,1;").due("tick(60)", 0).due("island(0, 1)", 5000);
        // parted from all PLANTS
        edge.laid("b2;l0,1;p0,9,1,1;f1,9,0;", "tick(1)", "link(0, 0)").due("island(1, 1)", 5000).due("tick(1)", 1)
                .due("island(1, 1)", 0);
    }

    private static void goesDark(Edge edge) {
        Run x = edge.laid("b1;p0,1,1,1;p0,2,1,1;f0,50,0;f0,50,0;f0,50,1;f0,1,0;", "feeder(1, 0)").due("tick(1)", 3);
        x.due("dropped(0)", 3).due("dropped(1)", 2).due("dropped(2)", 0).due("dropped(3)", 1).due("dropped(4)", NONE);
        x.due("island(0, 1)", 0).due("island(0, 2)", 0).due("island(0, 3)", 0).due("island(0, 6)", 0).due("island(0, 7)", 4);
        x.due("plant(0)", 0).due("plant(1)", 0).due("island(0, 4)", 3).due("island(0, 5)", 2);
        for (int f = 0; f < 4; f++) {
            x.due("isOn(" + f + ")", 0);
        }
        // no other one's
        edge.laid("b2;f0,9,0;f1,9,0;p1,9,1,1;").due("tick(1)", 1).due("isOn(1)", 1).due("plant(0)", 9);
    }

    private static void countsOfDark(Edge edge) {
        // F is 4900, then 4800, then DARK
        Run x = edge.laid("b1;p0,40,1,1;f0,50,0;s4999,9;s4850,9;r4900,9;", "tick(1)");
        x.due("counted(0, 0)", 1).due("counted(0, 1)", 1).due("counted(0, 2)", 0).does("tick(1)");
        x.due("counted(0, 0)", 0).due("counted(0, 1)", 2).due("counted(0, 2)", 1).does("tick(1)").due("island(0, 1)", 4700);
        x.does("tick(1)").due("island(0, 1)", 0).due("counted(0, 1)", 3).due("counted(0, 2)", 2).due("counted(0, 0)", 0);
        // the COUNT of the way BACK stays, too
        Run y = edge.laid("b2;l0,1;p0,9,1,1;f1,9,0;r4900,9;", "tick(5)", "link(0, 0)", "tick(1)");
        y.due("island(1, 1)", 0).due("counted(1, 0)", 5).due("counted(0, 0)", 6);
    }

    private static void stagesInOrder(Edge edge) {
        Run x = edge.laid("b1;p0,9,1,5;f0,10,3;f0,10,2;f0,10,1;s4999,1;s4999,1;s4999,1;").due("tick(1)", 3);
        x.due("dropped(0)", 0).due("dropped(1)", 1).due("dropped(2)", 2);
        // what STAGE 1 drops leaves F as it is: STAGE 2 drops in the same TICK
        edge.laid("b1;p0,9,1,5;f0,5,1;f0,5,2;s4999,1;s4999,1;").due("tick(1)", 2);
    }

    private static void belowMark(Edge edge) {
        // F is 4999, 4998, 4997
        Run x = edge.laid(TEN + "f0,50,0;f0,1,0;s4998,9;r5000,9;", "tick(1)").due("counted(0, 1)", 0);
        x.does("tick(1)").due("island(0, 1)", 4998).due("counted(0, 1)", 0);
        x.does("tick(1)").due("island(0, 1)", 4997).due("counted(0, 1)", 1).does("tick(1)").due("counted(0, 1)", 2);
        // F stays at 4996: below still
        Run y = edge.laid("b1;p0,49,1,9;p0,1,1,1;f0,49,0;f0,1,0;f0,1,0;s4998,9;r5000,9;", "tick(4)");
        y.due("island(0, 1)", 4996).due("counted(0, 1)", 2).does("feeder(1, 0)", "feeder(2, 0)", "tick(1)");
        y.due("island(0, 1)", 4996).due("counted(0, 1)", 3);
        // F rises to 4998: not below any more
        Run z = edge.laid("b1;p0,49,1,9;p0,1,1,1;f0,47,0;f0,4,0;s4998,9;r5000,9;", "tick(3)");
        z.due("island(0, 1)", 4997).due("counted(0, 1)", 1).does("feeder(1, 0)", "tick(1)").due("island(0, 1)", 4998);
        z.due("counted(0, 1)", 0);
    }

    private static void waitOfStage(Edge edge) {
        // F falls by 10 a TICK
        Run x = edge.laid("b1;p0,40,1,1;f0,1,1;f0,39,0;f0,1,1;s4999,3;").due("tick(2)", 0).due("counted(0, 1)", 2);
        x.due("tick(1)", 2).due("dropped(0)", 2).due("dropped(1)", 0).due("isOn(1)", 1);
        // one that is OFF already is not dropped
        Run y = edge.laid("b1;p0,39,1,1;f0,1,1;f0,39,0;f0,1,1;s4999,3;", "feeder(2, 0)").due("tick(2)", 0);
        y.due("tick(1)", 1).due("dropped(0)", 0).due("dropped(1)", 2);
        // COUNT is more than WAIT: it is dropped in the next TICK
        Run z = edge.laid("b1;p0,40,1,9;p0,1,1,1;f0,41,0;f0,1,0;f0,1,1;s4999,2;", "feeder(2, 0)").due("tick(5)", 0);
        z.due("counted(0, 1)", 4).does("feeder(2, 1)").due("tick(1)", 1).due("counted(0, 1)", 0);
    }

    private static void ifThereWereAny(Edge edge) {
        Run x = edge.laid("b1;p0,40,1,1;f0,40,0;f0,1,1;s4999,1;s4999,1;").due("tick(1)", 1);
        x.due("counted(0, 1)", 0).due("counted(0, 2)", 1);
        Run y = edge.laid("b1;p0,40,1,1;f0,41,0;s4999,2;").due("tick(1)", 0).due("counted(0, 1)", 1);
        y.due("tick(1)", 0).due("counted(0, 1)", 2).due("tick(1)", 0).due("counted(0, 1)", 3);
        // those of another ISLAND are none of its own
        Run z = edge.laid("b2;p0,40,1,1;f0,41,0;p1,9,1,1;f1,9,1;s4999,2;").due("tick(3)", 0).due("counted(0, 1)", 3);
        z.due("isOn(1)", 1);
    }

    private static void backAtMark(Edge edge) {
        // F is 4999, 4998, 4997
        Run x = edge.laid(TEN + "f0,50,0;f0,1,0;r4998,9;", "tick(1)").due("counted(0, 0)", 1);
        x.does("tick(1)").due("island(0, 1)", 4998).due("counted(0, 0)", 2);
        x.does("tick(1)").due("island(0, 1)", 4997).due("counted(0, 0)", 0).does("tick(1)").due("counted(0, 0)", 0);
        // F is 5000: MARK 5000
        edge.laid("b1;p0,9,1,1;f0,9,0;r5000,9;", "tick(3)").due("counted(0, 0)", 3);
    }

    private static void backWait(Edge edge) {
        String text = "b1;p0,9,9,9;f0,9,0;r4900,3;";
        Run x = edge.laid(text, "feeder(0, 0)", "tick(2)").due("isOn(0)", 0).due("counted(0, 0)", 2);
        x.does("tick(1)").due("isOn(0)", 1).due("counted(0, 0)", 0);
        // COUNT is more than WAIT: it comes BACK in the next TICK
        Run y = edge.laid(text, "tick(10)").due("counted(0, 0)", 10).does("feeder(0, 0)", "tick(1)").due("isOn(0)", 1);
        y.due("counted(0, 0)", 0);
    }

    private static void backLatest(Edge edge) {
        Run x = edge.laid("b1;p0,50,9,9;f0,9,0;f0,9,0;f0,9,0;r4900,1;", "feeder(1, 0)", "feeder(2, 0)", "feeder(0, 0)");
        x.does("tick(1)").due("isOn(0)", 1).due("count(8)", 1).does("tick(1)").due("isOn(2)", 1).due("count(8)", 2);
        x.does("tick(1)").due("isOn(1)", 1).due("count(8)", 3);
        // the latest of another ISLAND is none of its own; each ISLAND has one a TICK
        Run y = edge.laid("b2;p0,9,9,9;p1,9,9,9;f0,4,0;f0,5,0;f1,4,0;f1,5,0;r4900,1;",
                "feeder(0, 0)", "feeder(2, 0)", "feeder(1, 0)", "feeder(3, 0)", "tick(1)");
        y.due("isOn(0)", 0).due("isOn(1)", 1).due("isOn(2)", 0).due("isOn(3)", 1);
    }

    private static void backFits(Edge edge) {
        // 10 are ON, CAP is 19, 20 and 21
        for (int cap = 19; cap <= 21; cap++) {
            edge.laid("b1;p0," + cap + ",9,9;f0,10,0;f0,10,0;r4900,1;", "feeder(1, 0)", "tick(1)")
                    .due("isOn(1)", cap < 20 ? 0 : 1);
        }
        // the latest does not fit, the one ahead of it does
        Run x = edge.laid("b1;p0,20,9,9;f0,10,0;f0,10,0;f0,11,0;r4900,1;", "feeder(1, 0)", "feeder(2, 0)", "tick(1)");
        x.due("isOn(1)", 1).due("isOn(2)", 0).due("dropped(0)", 2).due("dropped(1)", NONE).due("counted(0, 0)", 0);
    }

    private static void backCount(Edge edge) {
        // none is OFF; none that fits is OFF
        edge.laid("b1;p0,19,9,9;f0,10,0;r4900,1;", "tick(1)").due("counted(0, 0)", 1).does("tick(1)").due("counted(0, 0)", 2);
        Run x = edge.laid("b1;p0,19,9,9;f0,10,0;f0,10,0;r4900,2;", "feeder(1, 0)", "tick(5)").due("counted(0, 0)", 5);
        // now it fits, and comes BACK at once
        x.does("feeder(0, 0)", "tick(1)").due("isOn(0)", 1).due("isOn(1)", 0).due("counted(0, 0)", 0);
    }

    private static void parted(Edge edge) {
        // F falls by 2 a TICK
        Run x = edge.laid("b3;l0,1;l1,2;p0,48,1,5;f0,49,0;s4999,9;s4997,9;r4900,9;", "tick(2)", "link(0, 0)", "link(1, 0)");
        for (int i = 0; i < 3; i++) {
            x.due("counted(" + i + ", 0)", 2).due("counted(" + i + ", 1)", 2).due("counted(" + i + ", 2)", 1);
            x.due("island(" + i + ", 1)", 4996);
        }
        // a LINK that parts nothing
        edge.laid("b2;l0,1;l0,1;p0,48,1,5;f0,49,0;s4999,9;", "tick(2)", "link(0, 0)").due("counted(0, 1)", 2)
                .due("counted(0, 0)", 2);
    }

    private static void joined(Edge edge) {
        Run x = edge.laid("b2;l0,1;p0,48,1,5;f0,49,0;s4999,9;r4900,9;", "tick(2)", "link(0, 0)", "link(0, 1)");
        x.due("counted(0, 0)", 0).due("counted(0, 1)", 0).due("island(0, 1)", 4996);
        // none that was one already
        Run y = edge.laid("b2;l0,1;l0,1;p0,48,1,5;f0,49,0;s4999,9;r4900,9;", "link(0, 0)", "tick(2)", "link(0, 1)");
        y.due("counted(0, 0)", 2).due("counted(0, 1)", 2);
    }

    private static void joinedWithDark(Edge edge) {
        // BUS 0 goes DARK with COUNTS of 1, the other one has 2
        Run x = edge.laid("b2;l0,1;p0,10,1,1;p1,20,1,9;f0,50,0;f1,19,0;s4999,9;r4900,9;",
                "tick(1)", "link(0, 0)", "tick(1)");
        x.due("island(0, 1)", 0).due("counted(0, 0)", 1).due("counted(0, 1)", 1);
        x.due("island(1, 1)", 4962).due("counted(1, 0)", 2).due("counted(1, 1)", 2).does("link(0, 1)");
        x.due("counted(0, 0)", 2).due("counted(0, 1)", 2);
        // the other way round
        Run y = edge.laid("b2;l0,1;p1,10,1,1;p0,20,1,9;f1,50,0;f0,19,0;s4999,9;r4900,9;",
                "tick(1)", "link(0, 0)", "tick(1)");
        y.due("island(1, 1)", 0).due("counted(1, 1)", 1).due("counted(0, 1)", 2).does("link(0, 1)");
        y.due("counted(0, 0)", 2).due("counted(0, 1)", 2);
    }

    private static void joinedBothDark(Edge edge) {
        Run x = edge.laid("b2;l0,1;p0,10,1,9;f0,50,0;f1,9,0;s4999,9;r4900,9;", "tick(1)", "link(0, 0)", "tick(60)");
        x.due("count(6)", 2).due("counted(0, 1)", 6).due("counted(1, 0)", 1).due("counted(1, 1)", 1).does("link(0, 1)");
        x.due("island(0, 1)", 0).due("counted(0, 0)", 0).due("counted(0, 1)", 0);
    }

    private static void tickBounds(Edge edge) {
        edge.made().bounds("tick(#)", 1, 60);
        edge.made("link(0, 0)", "tick(3)").bounds("tick(#)", 1, 60);
        edge.made().due("tick(1)", 0).due("count(7)", 1).due("tick(60)", 0).due("count(7)", 61).due("count(10)", 2);
        // n TICKS are n times one
        Run at = edge.made("link(0, 0)", "tick(7)");
        Run each = edge.made("link(0, 0)", "tick(1)", "tick(2)", "tick(4)");
        for (int i = 0; i < 2; i++) {
            for (int what = 0; what <= 8; what++) {
                String ask = "island(" + i + ", " + what + ")";
                edge.is(ask, at.call(ask), each.call(ask));
            }
        }
    }

    private static void tickDrops(Edge edge) {
        edge.made("link(0, 0)").due("tick(1)", 0).due("tick(1)", 1).due("tick(1)", 1);
        edge.made("link(0, 0)").due("tick(3)", 2);
        edge.laid("b6;" + "f0,50,0;".repeat(9)).due("tick(60)", 9).due("tick(60)", 0);
        // in the 60th TICK, not in the 59th: F is 4940 then
        edge.laid(TEN + "f0,50,0;f0,1,1;s4941,1;").due("tick(59)", 0).due("island(0, 1)", 4941);
        edge.laid(TEN + "f0,50,0;f0,1,1;s4941,1;").due("tick(60)", 1).due("island(0, 1)", 4940);
        // by hand is not in them; one that comes BACK and is dropped again counts each time
        Run x = edge.laid("b2;l0,1;p0,20,1,1;p1,60,1,5;f1,5,1;f1,6,1;s4999,1;r4900,1;", "link(0, 0)");
        x.due("tick(2)", 3).does("undo()", "feeder(0, 0)").due("tick(1)", 1);
        edge.made("feeder(0, 0)").due("tick(1)", 0);
    }

    private static void ticksAtMost(Edge edge) {
        Run x = edge.made();
        for (int i = 0; i < 166; i++) {
            x.does("tick(60)");
        }
        x.due("count(7)", 9960);
        x.refused("tick(40)", NO).refused("tick(60)", NO).again().due("tick(39)", 0).due("count(7)", 9999);
        Run y = x.again().does("tick(38)").refused("tick(2)", NO).due("tick(1)", 0).due("count(7)", 9999);
        y.refused("tick(1)", NO).refused("tick(60)", NO);
        // BAD is ahead of NO
        y.refused("tick(0)", BAD).refused("tick(61)", BAD);
        // they are UNDONE, and none when LAID anew
        y.does("undo()").due("count(7)", 9998).due("tick(1)", 0).refused("tick(1)", NO);
        y.tell("b1;").does("lay()").due("count(7)", 0).due("tick(60)", 0);
    }
}
