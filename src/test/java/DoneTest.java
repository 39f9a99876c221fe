/** Promises 6 to 11: tick, link, feeder, begin, mark, undo. */
final class DoneTest {
    private static final Due DUE = new Due("DoneTest");
    private static final int BAD = ShedStages.BAD;
    private static final int NO = ShedStages.NO;
    private static final int NONE = ShedStages.NONE;

    public static void main(String[] args) {
        tickBounds();
        ticksAtMost();
        stageDrops();
        stageAtItsMark();
        stageWithoutFeeders();
        followsWithinPaceAndCap();
        cutTowardsZero();
        highest();
        goesDark();
        darkAtItsEdge();
        darkWithoutPlant();
        comesBack();
        comesBackIfItFits();
        droppedAndBackInOneTick();
        islandsInTheirOrder();
        linkBounds();
        parted();
        joined();
        joinedByHeavy();
        joinedWithoutPlants();
        joinedWithDark();
        linkInsideAnIsland();
        byHand();
        begun();
        marked();
        undone();
        undoneOrder();
        undoneOfEachKind();
        DUE.end();
    }

    private static void tickBounds() {
        ShedStages x = new ShedStages();
        DUE.is("tick(0)", x.tick(0), BAD);
        DUE.is("tick(-1)", x.tick(-1), BAD);
        DUE.is("tick(61)", x.tick(61), BAD);
        DUE.is("tick(MIN)", x.tick(Integer.MIN_VALUE), BAD);
        DUE.is("tick(MAX)", x.tick(Integer.MAX_VALUE), BAD);
        DUE.is("count(7), none", x.count(7), 0);
        DUE.is("tick(1)", x.tick(1), 0);
        DUE.is("tick(60)", x.tick(60), 0);
        DUE.is("count(7)", x.count(7), 61);
        DUE.is("count(10)", x.count(10), 2);
    }

    private static void ticksAtMost() {
        ShedStages x = new ShedStages();
        for (int i = 0; i < 166; i++) {
            x.tick(60);
        }
        DUE.is("tick(40) at 9960", x.tick(40), NO);
        DUE.is("tick(61) at 9960", x.tick(61), BAD);
        DUE.is("tick(39) at 9960", x.tick(39), 0);
        DUE.is("count(7) at 9999", x.count(7), 9999);
        DUE.is("tick(1) at 9999", x.tick(1), NO);
        DUE.is("ahead(60, 0, 0) at 9999", x.ahead(60, 0, 0), 5000);
        DUE.is("undo() at 9999", x.undo(), 3);
        DUE.is("count(7), undone", x.count(7), 9960);
        DUE.is("tick(1), undone", x.tick(1), 0);
    }

    /** LOAD 60, CAP 50, HEAVY 5: F falls by 20 a TICK. */
    private static void stageDrops() {
        ShedStages x = Due.laid("b1;p0,50,5,5;f0,30,1;f0,10,2;f0,10,1;f0,10,0;s4900,2;s4800,1;");
        DUE.is("tick(5)", x.tick(5), 0);
        DUE.is("F is 4900: not below it", x.counted(0, 1), 0);
        DUE.is("tick(1)", x.tick(1), 0);
        DUE.is("F", x.island(0, 1), 4880);
        DUE.is("counted(0, 1)", x.counted(0, 1), 1);
        DUE.is("counted(0, 2)", x.counted(0, 2), 0);
        DUE.is("tick(1) drops both of STAGE 1", x.tick(1), 2);
        DUE.is("F when they are dropped", x.island(0, 1), 4860);
        DUE.is("counted(0, 1), dropped", x.counted(0, 1), 0);
        DUE.is("dropped(0)", x.dropped(0), 2);
        DUE.is("dropped(1)", x.dropped(1), 0);
        DUE.is("dropped(2)", x.dropped(2), NONE);
        DUE.is("LOAD", x.island(0, 2), 20);
        DUE.is("GIVEN", x.island(0, 3), 50);
        // AIM is 20 and 7: GIVEN falls by its PACE, to 45; F rises by 250 by 5
        DUE.is("tick(1) behind", x.tick(1), 0);
        DUE.is("F rises", x.island(0, 1), 4910);
        DUE.is("counted(0, 1), above", x.counted(0, 1), 0);
        DUE.is("plant(0)", x.plant(0), 45);
    }

    private static void stageAtItsMark() {
        ShedStages x = Due.laid("b1;p0,40,1,1;f0,50,1;s4900,1;");
        DUE.is("tick(1): F is MARK", x.tick(1), 0);
        DUE.is("F is MARK", x.island(0, 1), 4900);
        x.undo();
        x.mark(1, 4901);
        DUE.is("tick(1): F is below MARK", x.tick(1), 1);
    }

    private static void stageWithoutFeeders() {
        ShedStages x = Due.laid("b1;p0,40,1,5;f0,41,2;f0,1,3;s4999,2;s4999,1;");
        // STAGE 3 is not told: FEEDER 1 is dropped by none
        DUE.is("tick(1) drops FEEDER 0", x.tick(1), 1);
        DUE.is("isOn(1)", x.isOn(1), 1);
        DUE.is("counted(0, 1)", x.counted(0, 1), 1);
        DUE.is("counted(0, 2)", x.counted(0, 2), 0);
        ShedStages y = Due.laid("b1;p0,40,1,1;f0,41,0;s4999,2;");
        DUE.is("tick(5) drops none", y.tick(5), 0);
        DUE.is("COUNT goes on where there is nothing to drop", y.counted(0, 1), 5);
        DUE.is("F", y.island(0, 1), 4950);
    }

    private static void followsWithinPaceAndCap() {
        ShedStages x = Due.laid("b2;l0,1;p0,60,3,1;p1,20,9,1;p1,9,2,1;f0,20,0;f1,19,0;");
        DUE.is("plant(0), laid", x.plant(0), 39);
        x.link(0, 0);
        x.tick(1);
        DUE.is("plant(0) goes down by its PACE", x.plant(0), 36);
        DUE.is("plant(1) goes up by its PACE", x.plant(1), 9);
        DUE.is("plant(2) goes up by its PACE", x.plant(2), 2);
        DUE.is("F 0 rises by 160", x.island(0, 1), 5160);
        DUE.is("F 1 falls by 80 by 2", x.island(1, 1), 4960);
        x.tick(1);
        // AIM 0 is 20 less 8, AIM 1 is 19 and 2
        DUE.is("plant(0) still", x.plant(0), 33);
        DUE.is("plant(1) once more", x.plant(1), 18);
        DUE.is("plant(2) till GIVEN is AIM", x.plant(2), 3);
        DUE.is("F 0 at its most", x.island(0, 1), 5200);
        DUE.is("F 1 rises by 20 by 2", x.island(1, 1), 4970);
        x.tick(1);
        // AIM 1 is 19 and 1, GIVEN is 21: the lowest gives one less
        DUE.is("plant(1) one less", x.plant(1), 17);
        DUE.is("plant(2) stays", x.plant(2), 3);
        ShedStages y = Due.laid("b1;p0,2,9,9;p0,9,9,9;f0,9,0;");
        y.feeder(0, 0);
        y.tick(1);
        DUE.is("0 at least", y.plant(0), 0);
        DUE.is("0 at least, both", y.plant(1), 0);
        y.feeder(0, 1);
        y.tick(1);
        DUE.is("its CAP at most", y.plant(0), 2);
        DUE.is("the other one the rest", y.plant(1), 7);
    }

    private static void cutTowardsZero() {
        ShedStages x = Due.laid("b1;p0,9,9,9;f0,10,0;");
        x.tick(1);
        DUE.is("10 by 9 is 1 less", x.island(0, 1), 4999);
        DUE.is("AIM: 1 by 20 is nothing", x.island(0, 8), 10);
        x.tick(19);
        DUE.is("20 less", x.island(0, 1), 4980);
        DUE.is("AIM: 20 by 20 is 1", x.island(0, 8), 11);
        ShedStages y = Due.laid("b1;p0,12,1,9;f0,10,0;f0,2,0;");
        y.feeder(1, 0);
        y.tick(1);
        DUE.is("10 by 9 is 1 more", y.island(0, 1), 5001);
        DUE.is("AIM: 1 above by 20 is nothing", y.island(0, 8), 10);
    }

    private static void highest() {
        ShedStages x = Due.laid("b1;p0,99,1,1;f0,50,0;r5000,9;");
        x.feeder(0, 0);
        x.tick(1);
        DUE.is("F is 5200 at most", x.island(0, 1), 5200);
        DUE.is("AIM below 0", x.island(0, 8), -10);
    }

    private static void goesDark() {
        ShedStages x = Due.laid("b2;l0,1;p1,10,1,1;p0,9,1,1;f0,50,1;f1,5,0;f0,20,2;s4999,9;s4999,9;");
        x.feeder(1, 0);
        x.tick(1);
        DUE.is("F falls by 510 by 2", x.island(0, 1), 4745);
        DUE.is("counted(0, 1)", x.counted(0, 1), 1);
        DUE.is("tick(60) goes DARK", x.tick(60), 2);
        DUE.is("F", x.island(0, 1), 0);
        DUE.is("AIM", x.island(0, 8), 0);
        DUE.is("LOAD", x.island(0, 2), 0);
        DUE.is("GIVEN", x.island(0, 3), 0);
        DUE.is("CAP", x.island(0, 4), 19);
        DUE.is("HEAVY", x.island(0, 5), 2);
        DUE.is("FEEDERS ON", x.island(0, 6), 0);
        DUE.is("FEEDERS dropped", x.island(0, 7), 3);
        DUE.is("COUNTS stay", x.counted(0, 1), 1);
        DUE.is("dropped(0)", x.dropped(0), 2);
        DUE.is("dropped(1)", x.dropped(1), 0);
        DUE.is("dropped(2)", x.dropped(2), 1);
        DUE.is("plant(0)", x.plant(0), 0);
        DUE.is("plant(1)", x.plant(1), 0);
        DUE.is("count(6)", x.count(6), 1);
        DUE.is("TICKS go by all the same", x.count(7), 61);
        DUE.is("tick(60), DARK", x.tick(60), 0);
        DUE.is("F, still", x.island(0, 1), 0);
    }

    private static void darkAtItsEdge() {
        ShedStages x = Due.laid("b1;p0,20,1,1;f0,50,0;");
        DUE.is("tick(1) to 4700", x.tick(1), 0);
        DUE.is("F 4700 is not DARK", x.island(0, 1), 4700);
        DUE.is("tick(1) below", x.tick(1), 1);
        DUE.is("F below 4700 is DARK", x.island(0, 1), 0);
        ShedStages y = Due.laid("b1;p0,19,1,1;f0,49,0;f0,1,0;");
        DUE.is("tick(1) far below", y.tick(1), 2);
        // 2110 by 7 is 301
        ShedStages z = Due.laid("b1;p0,39,1,7;f0,50,0;f0,50,0;f0,50,0;f0,50,0;f0,50,0;");
        DUE.is("tick(1) to 4699", z.tick(1), 5);
        DUE.is("F 4699 is DARK", z.island(0, 1), 0);
    }

    private static void darkWithoutPlant() {
        ShedStages x = Due.laid("b2;p0,20,1,1;f1,5,1;f1,6,0;s4999,1;");
        DUE.is("tick(1) without PLANT", x.tick(1), 2);
        DUE.is("F", x.island(1, 1), 0);
        DUE.is("F of the other one", x.island(0, 1), 5000);
        DUE.is("dropped(0)", x.dropped(0), 1);
        ShedStages y = Due.laid("b1;");
        DUE.is("tick(1) of nothing", y.tick(1), 0);
        DUE.is("count(6) of nothing", y.count(6), 1);
    }

    /** GIVEN is 50, LOAD 0 at first; PACE 9, HEAVY 5. */
    private static void comesBack() {
        ShedStages x = Due.laid("b1;p0,50,9,5;f0,30,0;f0,20,0;f0,10,0;r4900,2;");
        x.feeder(1, 0);
        x.feeder(0, 0);
        x.feeder(2, 0);
        DUE.is("dropped(0) by hand", x.dropped(0), 2);
        DUE.is("dropped(1) by hand", x.dropped(1), 0);
        DUE.is("dropped(2) by hand", x.dropped(2), 1);
        x.tick(1);
        DUE.is("counted(0, 0) 1", x.counted(0, 0), 1);
        DUE.is("F 1", x.island(0, 1), 5082);
        DUE.is("tick(1): what comes BACK is not dropped", x.tick(1), 0);
        DUE.is("F 2", x.island(0, 1), 5146);
        DUE.is("the latest is ON again", x.isOn(2), 1);
        DUE.is("one at a time", x.count(8), 1);
        DUE.is("counted(0, 0) 2", x.counted(0, 0), 0);
        x.tick(2);
        DUE.is("F 4", x.island(0, 1), 5180);
        DUE.is("the next one is ON again", x.isOn(0), 1);
        DUE.is("dropped(0) left", x.dropped(0), 1);
        x.tick(2);
        DUE.is("F 6", x.island(0, 1), 5130);
        DUE.is("no room for the last", x.isOn(1), 0);
        DUE.is("counted(0, 0) goes on", x.counted(0, 0), 2);
        x.tick(1);
        DUE.is("F 7", x.island(0, 1), 5118);
        DUE.is("counted(0, 0) goes on and on", x.counted(0, 0), 3);
    }

    private static void comesBackIfItFits() {
        ShedStages x = Due.laid("b1;p0,45,9,5;f0,30,0;f0,15,0;f0,10,0;f0,5,0;r5000,1;");
        x.feeder(3, 0);
        x.feeder(2, 0);
        x.feeder(1, 0);
        x.feeder(0, 0);
        x.feeder(1, 1);
        x.tick(1);
        DUE.is("CAP and no more: 15 and 30 are 45", x.isOn(0), 1);
        ShedStages y = Due.laid("b1;p0,44,9,5;f0,30,0;f0,15,0;f0,10,0;f0,5,0;r5000,1;");
        y.feeder(3, 0);
        y.feeder(2, 0);
        y.feeder(0, 0);
        y.tick(1);
        DUE.is("the latest would be too much", y.isOn(0), 0);
        DUE.is("the latest that fits", y.isOn(2), 1);
        DUE.is("no other one", y.isOn(3), 0);
        ShedStages z = Due.laid("b1;p0,10,1,9;f0,10,0;f0,1,0;r5000,1;");
        z.feeder(1, 0);
        z.tick(1);
        DUE.is("F is MARK", z.island(0, 1), 5000);
        DUE.is("F is MARK: it counts", z.counted(0, 0), 1);
        z.feeder(1, 1);
        z.tick(1);
        DUE.is("F is below MARK", z.island(0, 1), 4999);
        DUE.is("F is below MARK: 0", z.counted(0, 0), 0);
    }

    private static void droppedAndBackInOneTick() {
        // F is 4998 then: below the STAGE's MARK, but not below that of the way BACK
        ShedStages x = Due.laid("b1;p0,49,9,1;p0,9,1,9;f0,50,0;f0,9,1;s4999,1;r4980,1;");
        DUE.is("LOAD", x.island(0, 2), 59);
        x.tick(1);
        DUE.is("F falls by 10 by 10", x.island(0, 1), 4999);
        DUE.is("tick(1) drops FEEDER 1", x.tick(1), 1);
        DUE.is("no room: 50 and 9 are above 58", x.isOn(1), 0);
        ShedStages y = Due.laid("b2;l0,1;p0,20,1,1;p1,60,1,5;f1,5,1;f1,6,1;s4999,1;r4900,1;");
        y.link(0, 0);
        // LOAD 11, GIVEN 1: F falls by 100 by 5; both are dropped, the latest is ON again
        DUE.is("tick(1) drops both", y.tick(1), 2);
        DUE.is("F", y.island(1, 1), 4980);
        DUE.is("the latest is ON again", y.isOn(1), 1);
        DUE.is("the other is not", y.isOn(0), 0);
        DUE.is("COUNT of the STAGE", y.counted(1, 1), 0);
        DUE.is("COUNT of the way BACK", y.counted(1, 0), 0);
        // AIM is 6 and 1: GIVEN 2; F falls by 40 by 5
        DUE.is("tick(1) drops it again", y.tick(1), 1);
        DUE.is("F again", y.island(1, 1), 4972);
        DUE.is("and it is ON again", y.isOn(1), 1);
        y.undo();
        y.undo();
        DUE.is("tick(2): each time counts", y.tick(2), 3);
    }

    private static void islandsInTheirOrder() {
        ShedStages x = Due.laid("b3;f2,1,0;f0,1,0;f1,1,0;f0,2,0;");
        DUE.is("tick(1) all DARK", x.tick(1), 4);
        int[] order = {0, 2, 3, 1};
        for (int k = 0; k < order.length; k++) {
            DUE.is("dropped(" + k + ") of ISLANDS", x.dropped(k), order[k]);
        }
    }

    private static void linkBounds() {
        ShedStages x = new ShedStages();
        DUE.is("link(-1, 0)", x.link(-1, 0), BAD);
        DUE.is("link(2, 0)", x.link(2, 0), BAD);
        DUE.is("link(0, 2)", x.link(0, 2), BAD);
        DUE.is("link(0, -1)", x.link(0, -1), BAD);
        DUE.is("link(MAX, 1)", x.link(Integer.MAX_VALUE, 1), BAD);
        DUE.is("link(0, 1), CLOSED", x.link(0, 1), NO);
        DUE.is("count(10), no change", x.count(10), 0);
        DUE.is("link(0, 0)", x.link(0, 0), 2);
        DUE.is("link(0, 0), OPEN", x.link(0, 0), NO);
        DUE.is("link(1, 0)", x.link(1, 0), 3);
        DUE.is("link(0, 1)", x.link(0, 1), 2);
        DUE.is("isClosed(0)", x.isClosed(0), 1);
        DUE.is("isClosed(1)", x.isClosed(1), 0);
        DUE.is("count(10)", x.count(10), 3);
    }

    private static void parted() {
        ShedStages x = Due.laid("b2;l0,1;p0,50,1,5;p1,10,1,5;f0,30,0;f1,40,1;s4999,9;");
        x.tick(2);
        DUE.is("F falls by 10 a TICK", x.island(0, 1), 4980);
        DUE.is("link(0, 0)", x.link(0, 0), 2);
        for (int i = 0; i < 2; i++) {
            DUE.is("F of each", x.island(i, 1), 4980);
            DUE.is("COUNT of each, BACK", x.counted(i, 0), 2);
            DUE.is("COUNT of each, 1", x.counted(i, 1), 2);
        }
        x.tick(1);
        DUE.is("F 0", x.island(0, 1), 5018);
        DUE.is("counted(0, 0)", x.counted(0, 0), 3);
        DUE.is("counted(0, 1)", x.counted(0, 1), 0);
        DUE.is("F 1", x.island(1, 1), 4920);
        DUE.is("counted(1, 0)", x.counted(1, 0), 0);
        DUE.is("counted(1, 1)", x.counted(1, 1), 3);
        DUE.is("link(0, 1), 98 apart", x.link(0, 1), NO);
    }

    private static void joined() {
        ShedStages x = Due.laid("b2;l0,1;p0,20,9,6;p1,20,9,2;f0,20,0;f1,22,0;s4999,9;");
        x.link(0, 0);
        x.tick(1);
        DUE.is("F 0", x.island(0, 1), 5000);
        DUE.is("F 1", x.island(1, 1), 4990);
        DUE.is("counted(1, 1)", x.counted(1, 1), 1);
        DUE.is("link(0, 1)", x.link(0, 1), 1);
        DUE.is("F: 39980 by 8, cut", x.island(0, 1), 4997);
        DUE.is("COUNTS are 0, BACK", x.counted(0, 0), 0);
        DUE.is("COUNTS are 0", x.counted(0, 1), 0);
        x.undo();
        x.tick(1);
        DUE.is("link(0, 1), 20 apart", x.link(0, 1), 1);
        DUE.is("F: 39960 by 8", x.island(0, 1), 4995);
        x.undo();
        x.mark(1, 4700);
        x.feeder(1, 0);
        x.feeder(1, 1);
        x.tick(1);
        DUE.is("link(0, 1), 30 apart", x.link(0, 1), NO);
    }

    private static void joinedByHeavy() {
        // F 1 becomes 4979: one more than 20 apart
        ShedStages x = Due.laid("b2;l0,1;p0,20,9,6;p1,20,9,9;f0,20,0;f1,39,0;f1,1,0;");
        x.link(0, 0);
        x.feeder(2, 0);
        x.tick(1);
        DUE.is("F 1", x.island(1, 1), 4979);
        DUE.is("link(0, 1), 21 apart", x.link(0, 1), NO);
        // one of them without PLANT: F of the other one
        ShedStages y = Due.laid("b3;l0,1;l1,2;p0,20,9,2;p2,20,9,2;f0,21,0;f2,20,0;");
        y.link(1, 0);
        y.tick(1);
        DUE.is("y: F 0", y.island(0, 1), 4995);
        DUE.is("y: F 1", y.island(1, 1), 5000);
        y.link(0, 0);
        DUE.is("y: F of the middle", y.island(1, 1), 4995);
        y.link(1, 1);
        DUE.is("y: F is that of the HEAVY one", y.island(1, 1), 5000);
    }

    private static void joinedWithoutPlants() {
        ShedStages x = Due.laid("b4;l0,1;l2,3;l1,3;p0,20,1,2;p2,20,1,2;f0,21,0;f2,20,0;");
        x.link(2, 0);
        x.tick(1);
        x.link(0, 0);
        x.link(1, 0);
        DUE.is("four ISLANDS", x.count(5), 4);
        DUE.is("F 1", x.island(1, 1), 4995);
        DUE.is("F 3", x.island(3, 1), 5000);
        DUE.is("link(2, 1)", x.link(2, 1), 3);
        DUE.is("the lower F", x.island(1, 1), 4995);
        DUE.is("its BUSES", x.island(1, 0), 10);
    }

    private static void joinedWithDark() {
        // the lower one goes DARK with COUNTS, the higher one lives on
        ShedStages x = Due.laid("b2;l0,1;p0,10,1,1;p1,20,1,9;f0,50,0;f1,19,0;s4999,9;r4900,9;");
        x.tick(1);
        DUE.is("F falls by 390 by 10", x.island(0, 1), 4961);
        x.link(0, 0);
        x.tick(1);
        DUE.is("F 0", x.island(0, 1), 0);
        // GIVEN 20, LOAD 19: F rises by 10 by 9
        DUE.is("F 1", x.island(1, 1), 4962);
        DUE.is("COUNTS of the DARK one stay", x.counted(0, 1), 1);
        DUE.is("COUNTS of the other", x.counted(1, 1), 2);
        DUE.is("link(0, 1) with a DARK one", x.link(0, 1), 1);
        DUE.is("F of the other", x.island(0, 1), 4962);
        DUE.is("COUNTS of the other, had", x.counted(0, 1), 2);
        DUE.is("COUNTS of the other, had, BACK", x.counted(0, 0), 2);
        DUE.is("count(6)", x.count(6), 0);
        // the higher one DARK
        ShedStages y = Due.laid("b2;l0,1;p1,10,1,1;p0,20,1,9;f1,50,0;f0,19,0;s4999,9;r4900,9;");
        y.tick(1);
        y.link(0, 0);
        y.tick(1);
        DUE.is("y: F 1", y.island(1, 1), 0);
        y.link(0, 1);
        DUE.is("y: F", y.island(0, 1), 4962);
        DUE.is("y: COUNTS", y.counted(0, 1), 2);
        // both DARK
        ShedStages z = Due.laid("b2;l0,1;p0,10,1,9;f0,50,0;f1,9,0;s4999,9;");
        z.tick(1);
        z.link(0, 0);
        z.tick(10);
        DUE.is("z: count(6)", z.count(6), 2);
        DUE.is("z: COUNTS", z.counted(1, 1), 1);
        DUE.is("z: link(0, 1)", z.link(0, 1), 1);
        DUE.is("z: F", z.island(0, 1), 0);
        DUE.is("z: COUNTS are 0", z.counted(0, 1), 0);
    }

    private static void linkInsideAnIsland() {
        ShedStages x = Due.laid("b3;l0,1;l1,2;l0,2;p0,50,1,5;f2,49,0;f1,3,0;s4999,9;");
        x.tick(1);
        DUE.is("F", x.island(0, 1), 4996);
        DUE.is("link(1, 0) parts nothing", x.link(1, 0), 1);
        DUE.is("counted(0, 1)", x.counted(0, 1), 1);
        DUE.is("link(1, 1) joins nothing", x.link(1, 1), 1);
        DUE.is("COUNTS stay", x.counted(0, 1), 1);
        DUE.is("COUNTS stay, BACK", x.counted(0, 0), 1);
        DUE.is("F stays", x.island(0, 1), 4996);
        // inside a DARK one, too
        ShedStages y = Due.laid("b2;l0,1;l0,1;f0,1,0;");
        y.tick(1);
        DUE.is("y: link(0, 0)", y.link(0, 0), 1);
        DUE.is("y: link(0, 1)", y.link(0, 1), 1);
        DUE.is("y: F", y.island(0, 1), 0);
    }

    private static void byHand() {
        ShedStages x = Due.laid("b2;p0,30,1,5;f0,20,1;f0,30,0;f1,7,0;");
        DUE.is("feeder(-1, 0)", x.feeder(-1, 0), BAD);
        DUE.is("feeder(3, 0)", x.feeder(3, 0), BAD);
        DUE.is("feeder(0, 2)", x.feeder(0, 2), BAD);
        DUE.is("feeder(0, -1)", x.feeder(0, -1), BAD);
        DUE.is("feeder(0, 1), ON", x.feeder(0, 1), NO);
        DUE.is("count(10)", x.count(10), 0);
        DUE.is("feeder(0, 0)", x.feeder(0, 0), 30);
        DUE.is("feeder(0, 0), OFF", x.feeder(0, 0), NO);
        DUE.is("dropped(0)", x.dropped(0), 0);
        DUE.is("feeder(0, 1), CAP is no bound", x.feeder(0, 1), 50);
        DUE.is("dropped(0), none", x.dropped(0), NONE);
        DUE.is("feeder(2, 0)", x.feeder(2, 0), 0);
        DUE.is("feeder(2, 1)", x.feeder(2, 1), 7);
        x.tick(1);
        DUE.is("feeder(2, 1), DARK", x.feeder(2, 1), NO);
        DUE.is("feeder(2, 0), DARK", x.feeder(2, 0), NO);
        x.feeder(0, 0);
        x.feeder(1, 0);
        x.feeder(0, 1);
        x.feeder(0, 0);
        DUE.is("dropped anew is the latest", x.dropped(0), 0);
        DUE.is("behind it", x.dropped(1), 1);
        DUE.is("the first", x.dropped(2), 2);
    }

    private static void begun() {
        ShedStages x = Due.laid("b3;l1,2;p1,10,1,4;p2,5,1,3;f1,50,0;f2,50,0;f2,5,0;s4999,9;");
        DUE.is("begin(-1)", x.begin(-1), BAD);
        DUE.is("begin(3)", x.begin(3), BAD);
        DUE.is("begin(2), not DARK", x.begin(2), NO);
        x.tick(3);
        DUE.is("count(6)", x.count(6), 2);
        DUE.is("COUNTS", x.counted(1, 1), 2);
        DUE.is("begin(0), no PLANT", x.begin(0), NO);
        DUE.is("feeder(2, 1), DARK", x.feeder(2, 1), NO);
        DUE.is("begin(2)", x.begin(2), 7);
        DUE.is("begin(1), begun", x.begin(1), NO);
        DUE.is("F", x.island(1, 1), 5000);
        DUE.is("COUNTS are 0", x.counted(1, 1), 0);
        DUE.is("COUNTS are 0, BACK", x.counted(1, 0), 0);
        DUE.is("FEEDERS stay OFF", x.island(1, 6), 0);
        DUE.is("GIVEN", x.island(1, 3), 0);
        DUE.is("count(6), begun", x.count(6), 1);
        x.tick(4);
        DUE.is("one comes BACK", x.isOn(2), 1);
        DUE.is("the others can not", x.count(8), 1);
    }

    private static void marked() {
        ShedStages x = new ShedStages();
        DUE.is("mark(-1, 4900)", x.mark(-1, 4900), BAD);
        DUE.is("mark(4, 4900)", x.mark(4, 4900), BAD);
        DUE.is("mark(0, 4899)", x.mark(0, 4899), BAD);
        DUE.is("mark(0, 5001)", x.mark(0, 5001), BAD);
        DUE.is("mark(1, 4699)", x.mark(1, 4699), BAD);
        DUE.is("mark(1, 5000)", x.mark(1, 5000), BAD);
        DUE.is("mark(1, 4900), so", x.mark(1, 4900), NO);
        DUE.is("mark(0, 4980), so", x.mark(0, 4980), NO);
        DUE.is("count(10)", x.count(10), 0);
        DUE.is("mark(0, 4900)", x.mark(0, 4900), 4980);
        DUE.is("mark(0, 5000)", x.mark(0, 5000), 4900);
        DUE.is("mark(3, 4999)", x.mark(3, 4999), 4800);
        DUE.is("mark(3, 4700)", x.mark(3, 4700), 4999);
        DUE.is("count(10), changed", x.count(10), 4);
    }

    private static void undone() {
        ShedStages x = new ShedStages();
        DUE.is("undo() of nothing", x.undo(), NO);
        for (int m = 4701; m <= 4706; m++) {
            x.mark(1, m);
            DUE.is("count(10)", x.count(10), Math.min(4, m - 4700));
        }
        for (int left = 3; left >= 0; left--) {
            DUE.is("undo()", x.undo(), left);
            DUE.is("count(10), undone", x.count(10), left);
        }
        DUE.is("undo() once more", x.undo(), NO);
        DUE.is("what stays", x.mark(1, 4700), 4702);
        DUE.is("undo() of one", x.undo(), 0);
        x.feeder(0, 0);
        x.write(98);
        DUE.is("undo() leaves THE TEXT", x.undo(), 0);
        DUE.is("count(11)", x.count(11), 1);
        x.feeder(9, 0);
        x.feeder(0, 1);
        DUE.is("what is no change can not be undone", x.undo(), NO);
    }

    private static void undoneOrder() {
        ShedStages x = new ShedStages();
        x.feeder(2, 0);
        x.feeder(0, 0);
        x.feeder(3, 0);
        x.feeder(2, 1);
        DUE.is("the first left", x.dropped(1), 0);
        x.undo();
        int[] order = {3, 0, 2};
        for (int k = 0; k < order.length; k++) {
            DUE.is("dropped(" + k + ") as it was", x.dropped(k), order[k]);
        }
    }

    private static void undoneOfEachKind() {
        ShedStages x = Due.laid("b2;l0,1;p0,10,1,1;p1,20,1,9;f0,50,0;f1,19,0;s4999,9;r4900,9;");
        x.tick(1);
        x.link(0, 0);
        x.tick(1);
        x.feeder(1, 0);
        x.begin(0);
        DUE.is("begun: F", x.island(0, 1), 5000);
        DUE.is("undo() of begin", x.undo(), 3);
        DUE.is("DARK again", x.island(0, 1), 0);
        DUE.is("COUNTS again", x.counted(0, 1), 1);
        DUE.is("undo() of feeder", x.undo(), 2);
        DUE.is("ON again", x.isOn(1), 1);
        DUE.is("dropped(0)", x.dropped(0), 0);
        DUE.is("undo() of tick", x.undo(), 1);
        DUE.is("TICKS", x.count(7), 1);
        DUE.is("F 0", x.island(0, 1), 4961);
        DUE.is("plant(0)", x.plant(0), 10);
        DUE.is("isOn(0)", x.isOn(0), 1);
        DUE.is("dropped(0), none", x.dropped(0), NONE);
        DUE.is("undo() of link", x.undo(), 0);
        DUE.is("ISLANDS", x.count(5), 1);
        DUE.is("isClosed(0)", x.isClosed(0), 1);
        x.mark(1, 4800);
        x.undo();
        DUE.is("undo() of mark", x.mark(1, 4800), 4999);
        x.link(0, 0);
        x.tick(1);
        x.link(0, 1);
        DUE.is("joined", x.count(5), 1);
        x.undo();
        DUE.is("parted again", x.count(5), 2);
        DUE.is("F 0 again", x.island(0, 1), 0);
        DUE.is("F 1 again", x.island(1, 1), 4962);
        DUE.is("COUNTS 0 again", x.counted(0, 0), 1);
        DUE.is("COUNTS 1 again", x.counted(1, 0), 2);
    }
}
