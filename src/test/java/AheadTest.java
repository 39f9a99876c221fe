/** Promises 19 to 22: ahead, least, dark, count. */
final class AheadTest {
    private static final Due DUE = new Due("AheadTest");
    private static final int BAD = ShedStages.BAD;
    private static final int NO = ShedStages.NO;
    private static final int NONE = ShedStages.NONE;

    public static void main(String[] args) {
        wrongNumbers();
        aheadOfDrops();
        aheadOfBack();
        aheadOfAllIslands();
        aheadChangesNothing();
        leastLoad();
        leastOfFewest();
        leastOfBits();
        leastWithBack();
        leastOfOneIsland();
        leastIsNone();
        dark();
        counts();
        DUE.end();
    }

    private static void wrongNumbers() {
        ShedStages x = new ShedStages();
        DUE.is("ahead(0, 0, 0)", x.ahead(0, 0, 0), BAD);
        DUE.is("ahead(61, 0, 0)", x.ahead(61, 0, 0), BAD);
        DUE.is("ahead(60, 0, 0)", x.ahead(60, 0, 0), 5000);
        DUE.is("ahead(1, -1, 0)", x.ahead(1, -1, 0), BAD);
        DUE.is("ahead(1, 3, 0)", x.ahead(1, 3, 0), BAD);
        DUE.is("ahead(1, 0, -1)", x.ahead(1, 0, -1), BAD);
        DUE.is("ahead(1, 0, 5)", x.ahead(1, 0, 5), BAD);
        DUE.is("least(-1, 1, 0)", x.least(-1, 1, 0), BAD);
        DUE.is("least(1, 1, 0)", x.least(1, 1, 0), BAD);
        DUE.is("least(0, 0, 0)", x.least(0, 0, 0), BAD);
        DUE.is("least(0, 31, 0)", x.least(0, 31, 0), BAD);
        DUE.is("least(0, 30, 0)", x.least(0, 30, 0), 0);
        DUE.is("least(0, 1, -1)", x.least(0, 1, -1), BAD);
        DUE.is("least(0, 1, 2)", x.least(0, 1, 2), BAD);
        DUE.is("dark(-1)", x.dark(-1), BAD);
        DUE.is("dark(3)", x.dark(3), BAD);
        DUE.is("count(-1)", x.count(-1), BAD);
        DUE.is("count(12)", x.count(12), BAD);
        DUE.is("count(MAX)", x.count(Integer.MAX_VALUE), BAD);
    }

    /** F: 4980, 4960, .. 4880, 4860 (30 and 10 are dropped), 4910, .. as in DoneTest. */
    private static void aheadOfDrops() {
        ShedStages x = Due.laid("b1;p0,50,5,5;f0,30,1;f0,10,2;f0,10,1;f0,10,0;s4900,2;s4800,1;");
        DUE.is("ahead(6, 0, 0)", x.ahead(6, 0, 0), 4880);
        DUE.is("ahead(6, 0, 1)", x.ahead(6, 0, 1), 4880);
        DUE.is("ahead(6, 0, 2)", x.ahead(6, 0, 2), 0);
        DUE.is("ahead(7, 0, 2)", x.ahead(7, 0, 2), 2);
        DUE.is("ahead(7, 0, 3)", x.ahead(7, 0, 3), 40);
        DUE.is("ahead(8, 0, 0)", x.ahead(8, 0, 0), 4910);
        DUE.is("ahead(8, 0, 1)", x.ahead(8, 0, 1), 4860);
        DUE.is("ahead(8, 0, 2)", x.ahead(8, 0, 2), 2);
        DUE.is("ahead(8, 0, 4)", x.ahead(8, 0, 4), 0);
        x.tick(7);
        DUE.is("ahead(1, 0, 1): F now does not count", x.ahead(1, 0, 1), 4910);
        DUE.is("ahead(1, 0, 2): what is dropped does not count", x.ahead(1, 0, 2), 0);
    }

    /** Both are dropped and one comes BACK at once, each time anew: as in DoneTest. */
    private static void aheadOfBack() {
        ShedStages x = Due.laid("b2;l0,1;p0,20,1,1;p1,60,1,5;f1,5,1;f1,6,1;s4999,1;r4900,1;");
        x.link(0, 0);
        DUE.is("ahead(1, 1, 2)", x.ahead(1, 1, 2), 2);
        DUE.is("ahead(1, 1, 3)", x.ahead(1, 1, 3), 11);
        DUE.is("ahead(1, 1, 4)", x.ahead(1, 1, 4), 1);
        DUE.is("ahead(2, 1, 0)", x.ahead(2, 1, 0), 4972);
        DUE.is("ahead(2, 1, 2), each time", x.ahead(2, 1, 2), 3);
        DUE.is("ahead(2, 1, 3), each time", x.ahead(2, 1, 3), 17);
        DUE.is("ahead(2, 1, 4), each time", x.ahead(2, 1, 4), 2);
    }

    private static void aheadOfAllIslands() {
        ShedStages x = Due.laid("b3;p0,20,1,1;f0,50,0;f1,3,0;f1,4,0;");
        DUE.is("ahead(1, 0, 0)", x.ahead(1, 0, 0), 4700);
        DUE.is("ahead(1, 1, 0)", x.ahead(1, 1, 0), 0);
        DUE.is("ahead(1, 2, 1)", x.ahead(1, 2, 1), 0);
        DUE.is("ahead(1, 0, 2), whatever the BUS", x.ahead(1, 0, 2), 2);
        DUE.is("ahead(1, 2, 3), whatever the BUS", x.ahead(1, 2, 3), 7);
        DUE.is("ahead(2, 0, 1)", x.ahead(2, 0, 1), 0);
        DUE.is("ahead(2, 1, 3)", x.ahead(2, 1, 3), 57);
        x.tick(1);
        DUE.is("ahead(1, 1, 1), DARK", x.ahead(1, 1, 1), 0);
    }

    private static void aheadChangesNothing() {
        ShedStages x = Due.laid("b2;l0,1;p0,10,1,1;p1,20,1,9;f0,50,1;f1,19,0;s4999,9;");
        x.tick(1);
        for (int round = 0; round < 2; round++) {
            x.ahead(60, 0, round);
            x.least(0, 30, round);
            x.dark(0);
            DUE.is("F", x.island(0, 1), 4961);
            DUE.is("LOAD", x.island(0, 2), 69);
            DUE.is("GIVEN", x.island(0, 3), 30);
            DUE.is("counted(0, 1)", x.counted(0, 1), 1);
            DUE.is("counted(0, 0)", x.counted(0, 0), 0);
            DUE.is("count(7)", x.count(7), 1);
            DUE.is("count(10)", x.count(10), 1);
            DUE.is("dropped(0)", x.dropped(0), NONE);
        }
        DUE.is("undo()", x.undo(), 0);
    }

    /** LOAD 80, CAP 50, HEAVY 5: F does not fall below 4990 in one TICK at a LOAD of 55. */
    private static void leastLoad() {
        ShedStages x = Due.laid("b1;p0,50,1,5;f0,30,1;f0,20,1;f0,20,0;f0,10,1;s4990,1;");
        DUE.is("least(0, 30, 0): of three of 30 that of one", x.least(0, 30, 0), 1);
        DUE.is("least(0, 30, 1)", x.least(0, 30, 1), 30);
        ShedStages y = Due.laid("b1;p0,50,1,5;f0,45,1;f0,6,0;f0,4,0;f0,5,0;s4990,1;");
        // LOAD 60: 5 less are enough for one TICK, 10 for many
        DUE.is("y: least(0, 1, 0)", y.least(0, 1, 0), 8);
        DUE.is("y: least(0, 1, 1)", y.least(0, 1, 1), 5);
        DUE.is("y: least(0, 30, 0)", y.least(0, 30, 0), 2 + 4);
        DUE.is("y: least(0, 30, 1)", y.least(0, 30, 1), 10);
        DUE.is("y: feeder(1, 0)", y.feeder(1, 0), 54);
        DUE.is("y: the rest", y.least(0, 30, 0), 4);
        // what no STAGE drops needs but not go DARK
        ShedStages z = Due.laid("b1;p0,20,1,1;f0,50,0;f0,1,0;");
        DUE.is("z: least(0, 1, 0)", z.least(0, 1, 0), 2);
        DUE.is("z: least(0, 1, 1)", z.least(0, 1, 1), 1);
        DUE.is("z: least(0, 2, 0)", z.least(0, 2, 0), 1);
        DUE.is("z: least(0, 2, 1)", z.least(0, 2, 1), 50);
    }

    private static void leastOfFewest() {
        ShedStages x = Due.laid("b1;p0,50,1,5;f0,10,1;f0,10,1;f0,20,1;f0,30,1;s4999,1;");
        DUE.is("least(0, 30, 0): one of 20, not two of 10", x.least(0, 30, 0), 4);
        DUE.is("least(0, 30, 1)", x.least(0, 30, 1), 20);
    }

    private static void leastOfBits() {
        ShedStages x = Due.laid("b1;p0,50,1,5;f0,30,1;f0,20,1;f0,20,1;s4999,1;");
        DUE.is("least(0, 30, 0): the least bits", x.least(0, 30, 0), 2);
        DUE.is("least(0, 30, 1)", x.least(0, 30, 1), 20);
    }

    /** The one dropped by hand comes BACK in the first TICK; F: 4999, 4964. */
    private static void leastWithBack() {
        ShedStages x = Due.laid("b2;l0,1;p0,60,9,9;p1,60,9,9;f1,40,0;f1,10,1;s4990,2;r4900,1;");
        x.link(0, 0);
        DUE.is("least(1, 1, 0)", x.least(1, 1, 0), 0);
        DUE.is("least(1, 2, 0): it may come BACK", x.least(1, 2, 0), 1);
        DUE.is("least(1, 2, 1)", x.least(1, 2, 1), 40);
        x.feeder(0, 0);
        DUE.is("tick(2) drops none", x.tick(2), 0);
        DUE.is("F", x.island(1, 1), 4964);
        DUE.is("isOn(0)", x.isOn(0), 1);
    }

    private static void leastOfOneIsland() {
        ShedStages x = Due.laid("b3;p1,50,1,5;f0,9,0;f1,30,1;f1,40,1;f2,9,0;s4999,1;");
        DUE.is("least(1, 5, 0): others may go DARK", x.least(1, 5, 0), 2);
        DUE.is("least(1, 5, 1)", x.least(1, 5, 1), 30);
    }

    private static void leastIsNone() {
        ShedStages x = Due.laid("b2;p1,10,1,1;f0,9,0;f1,50,0;");
        DUE.is("least(0, 1, 0), no PLANT", x.least(0, 1, 0), NONE);
        DUE.is("least(0, 1, 1), no PLANT", x.least(0, 1, 1), NONE);
        DUE.is("least(1, 1, 0)", x.least(1, 1, 0), 2);
        x.tick(1);
        DUE.is("least(0, 1, 0), DARK", x.least(0, 1, 0), NONE);
        DUE.is("least(1, 1, 1), DARK", x.least(1, 1, 1), NONE);
        DUE.is("least(2, 1, 0), DARK", x.least(2, 1, 0), BAD);
        DUE.is("least(1, 31, 0), DARK", x.least(1, 31, 0), BAD);
        x.begin(1);
        DUE.is("least(1, 30, 0), begun", x.least(1, 30, 0), 0);
    }

    private static void dark() {
        ShedStages x = Due.laid("b3;p0,20,1,1;f0,50,0;p1,20,1,1;f1,20,0;");
        DUE.is("dark(0)", x.dark(0), 2);
        DUE.is("dark(1)", x.dark(1), NONE);
        DUE.is("dark(2)", x.dark(2), 1);
        x.tick(1);
        DUE.is("dark(0), later", x.dark(0), 1);
        DUE.is("dark(2), DARK", x.dark(2), NO);
        // F falls by 5 a TICK: 4700 behind 60 of them, below it in the next
        ShedStages y = Due.laid("b1;p0,49,1,2;f0,50,0;");
        DUE.is("y: dark(0): not in 60", y.dark(0), NONE);
        y.tick(1);
        DUE.is("y: dark(0): in 60", y.dark(0), 60);
        y.tick(59);
        DUE.is("y: F", y.island(0, 1), 4700);
        DUE.is("y: dark(0): in 1", y.dark(0), 1);
    }

    private static void counts() {
        ShedStages x = Due.laid("b4;l0,1;l1,2;p0,30,1,5;f0,20,1;f1,10,0;f2,5,2;f3,4,0;s4900,1;s4800,1;");
        x.link(1, 0);
        x.feeder(1, 0);
        x.tick(2);
        int[] want = {4, 2, 1, 4, 2, 3, 2, 2, 1, 20, 3, 69};
        for (int what = 0; what < want.length; what++) {
            DUE.is("count(" + what + ")", x.count(what), want[what]);
        }
        x.wipe();
        DUE.is("count(11), wiped", x.count(11), 0);
    }
}
