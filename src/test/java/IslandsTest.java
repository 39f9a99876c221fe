/** Promises 12 to 18: island, counted, at, plant, isOn, isClosed, dropped. */
final class IslandsTest {
    private static final Due DUE = new Due("IslandsTest");
    private static final int BAD = ShedStages.BAD;
    private static final int NONE = ShedStages.NONE;
    private static final String SIX =
            "b6;l5,3;l0,4;l4,2;p3,40,2,4;p5,9,1,5;p4,30,3,2;f0,12,0;f3,50,1;f5,11,0;f2,3,2;f1,4,0;s4990,9;s4980,9;";

    public static void main(String[] args) {
        ofIslands();
        ofIslandsBehindTicks();
        wrongNumbers();
        counted();
        numbered();
        rows();
        dropped();
        DUE.end();
    }

    private static void rowOf(ShedStages x, int i, int... want) {
        for (int what = 0; what < want.length; what++) {
            DUE.is("island(" + i + ", " + what + ")", x.island(i, what), want[what]);
        }
    }

    private static void ofIslands() {
        ShedStages x = Due.laid(SIX);
        DUE.is("count(5)", x.count(5), 3);
        rowOf(x, 0, 1 + 4 + 16, 5000, 15, 15, 30, 2, 2, 0, 15);
        rowOf(x, 1, 2, 5000, 4, 0, 0, 0, 1, 0, 4);
        rowOf(x, 2, 8 + 32, 5000, 61, 49, 49, 9, 2, 0, 61);
    }

    private static void ofIslandsBehindTicks() {
        ShedStages x = Due.laid(SIX);
        x.feeder(0, 0);
        x.tick(1);
        // 0: GIVEN 15 less PACE 3 is 12, LOAD 3: F rises by 90 by 2; AIM is 3 less 2
        rowOf(x, 0, 21, 5045, 3, 12, 30, 2, 1, 1, 1);
        rowOf(x, 1, 2, 0, 0, 0, 0, 0, 0, 1, 0);
        // 2: GIVEN 49, LOAD 61: F falls by 120 by 9
        rowOf(x, 2, 40, 4987, 61, 49, 49, 9, 2, 0, 61);
        x.tick(1);
        rowOf(x, 2, 40, 4974, 61, 49, 49, 9, 2, 0, 62);
    }

    private static void wrongNumbers() {
        ShedStages x = Due.laid(SIX);
        int[] wrong = {-1, Integer.MIN_VALUE, Integer.MAX_VALUE};
        for (int w : wrong) {
            DUE.is("island(" + w + ", 0)", x.island(w, 0), BAD);
            DUE.is("island(0, " + w + ")", x.island(0, w), BAD);
            DUE.is("counted(" + w + ", 0)", x.counted(w, 0), BAD);
            DUE.is("counted(0, " + w + ")", x.counted(0, w), BAD);
            DUE.is("at(" + w + ")", x.at(w), BAD);
            DUE.is("plant(" + w + ")", x.plant(w), BAD);
            DUE.is("isOn(" + w + ")", x.isOn(w), BAD);
            DUE.is("isClosed(" + w + ")", x.isClosed(w), BAD);
        }
        DUE.is("island(3, 0)", x.island(3, 0), BAD);
        DUE.is("island(0, 9)", x.island(0, 9), BAD);
        DUE.is("counted(3, 0)", x.counted(3, 0), BAD);
        DUE.is("counted(0, 3)", x.counted(0, 3), BAD);
        DUE.is("at(6)", x.at(6), BAD);
        DUE.is("plant(3)", x.plant(3), BAD);
        DUE.is("isOn(5)", x.isOn(5), BAD);
        DUE.is("isClosed(3)", x.isClosed(3), BAD);
        ShedStages y = Due.laid("b1;");
        DUE.is("y: at(1)", y.at(1), BAD);
        DUE.is("y: plant(0)", y.plant(0), BAD);
        DUE.is("y: isOn(0)", y.isOn(0), BAD);
        DUE.is("y: isClosed(0)", y.isClosed(0), BAD);
        DUE.is("y: counted(0, 0)", y.counted(0, 0), 0);
        DUE.is("y: counted(0, 1)", y.counted(0, 1), BAD);
        DUE.is("y: island(0, 0)", y.island(0, 0), 1);
    }

    private static void counted() {
        ShedStages x = Due.laid(SIX);
        x.tick(1);
        DUE.is("counted(2, 0): 4987", x.counted(2, 0), 1);
        DUE.is("counted(2, 1): 4987", x.counted(2, 1), 1);
        DUE.is("counted(2, 2): 4987", x.counted(2, 2), 0);
        x.tick(1);
        DUE.is("counted(2, 0): 4974", x.counted(2, 0), 0);
        DUE.is("counted(2, 1): 4974", x.counted(2, 1), 2);
        DUE.is("counted(2, 2): 4974", x.counted(2, 2), 1);
        DUE.is("counted(0, 0): 5000", x.counted(0, 0), 2);
        DUE.is("counted(0, 1): 5000", x.counted(0, 1), 0);
        DUE.is("counted(1, 0), DARK", x.counted(1, 0), 0);
    }

    private static void numbered() {
        ShedStages x = Due.laid(SIX);
        int[] first = {0, 1, 0, 2, 0, 2};
        for (int b = 0; b < 6; b++) {
            DUE.is("at(" + b + ")", x.at(b), first[b]);
        }
        x.link(2, 0);
        int[] parted = {0, 1, 2, 3, 0, 3};
        for (int b = 0; b < 6; b++) {
            DUE.is("at(" + b + "), parted", x.at(b), parted[b]);
        }
        // a chain that is told from its end on
        ShedStages y = Due.laid("b6;l0,5;l5,4;l4,3;l3,2;l2,1;");
        for (int b = 0; b < 6; b++) {
            DUE.is("at(" + b + ") in a chain", y.at(b), 0);
        }
        ShedStages z = Due.laid("b6;l1,2;l2,3;l3,4;l4,5;l5,0;");
        for (int b = 0; b < 6; b++) {
            DUE.is("at(" + b + ") in a chain, the other way", z.at(b), 0);
        }
        z.link(2, 0);
        DUE.is("its parts", z.island(0, 0), 1 + 16 + 32);
        DUE.is("its parts, the other", z.island(1, 0), 2 + 4 + 8);
    }

    private static void rows() {
        ShedStages x = Due.laid(SIX);
        DUE.is("plant(0)", x.plant(0), 40);
        DUE.is("plant(1)", x.plant(1), 9);
        DUE.is("plant(2)", x.plant(2), 15);
        x.feeder(3, 0);
        x.link(1, 0);
        for (int f = 0; f < 5; f++) {
            DUE.is("isOn(" + f + ")", x.isOn(f), f == 3 ? 0 : 1);
        }
        for (int l = 0; l < 3; l++) {
            DUE.is("isClosed(" + l + ")", x.isClosed(l), l == 1 ? 0 : 1);
        }
    }

    private static void dropped() {
        ShedStages x = Due.laid(SIX);
        DUE.is("dropped(-1)", x.dropped(-1), BAD);
        DUE.is("dropped(MIN)", x.dropped(Integer.MIN_VALUE), BAD);
        DUE.is("dropped(0)", x.dropped(0), NONE);
        DUE.is("dropped(MAX)", x.dropped(Integer.MAX_VALUE), NONE);
        x.feeder(2, 0);
        x.feeder(0, 0);
        x.feeder(3, 0);
        DUE.is("dropped(0), the latest", x.dropped(0), 3);
        DUE.is("dropped(1)", x.dropped(1), 0);
        DUE.is("dropped(2)", x.dropped(2), 2);
        DUE.is("dropped(3)", x.dropped(3), NONE);
        x.feeder(0, 1);
        DUE.is("dropped(1), one ON again", x.dropped(1), 2);
        DUE.is("dropped(2), one ON again", x.dropped(2), NONE);
    }
}
