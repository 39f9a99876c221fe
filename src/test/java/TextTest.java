/** Promises 1 to 5: a new object, write, wipe, fault, lay. */
final class TextTest {
    private static final Due DUE = new Due("TextTest");
    private static final int NO = ShedStages.NO;
    private static final int NONE = ShedStages.NONE;
    private static final int BAD = ShedStages.BAD;
    private static final int FULL = ShedStages.FULL;

    public static void main(String[] args) {
        aNewObject();
        written();
        wiped();
        faultOfItems();
        faultOfRanges();
        faultOfOneTooMany();
        laid();
        laidAnew();
        givenWhenLaid();
        notLaid();
        DUE.end();
    }

    private static void aNewObject() {
        ShedStages x = new ShedStages();
        int[] counts = {3, 2, 2, 4, 3, 1, 0, 0, 4, 70, 0, 0};
        for (int what = 0; what < counts.length; what++) {
            DUE.is("new: count(" + what + ")", x.count(what), counts[what]);
        }
        DUE.is("new: wipe()", x.wipe(), 0);
        DUE.is("new: undo()", x.undo(), NO);
        DUE.is("new: plant(0)", x.plant(0), 60);
        DUE.is("new: plant(1)", x.plant(1), 10);
        DUE.is("new: isClosed(1)", x.isClosed(1), 1);
        DUE.is("new: mark(0)", x.mark(0, 4981), 4980);
        DUE.is("new: mark(1)", x.mark(1, 4901), 4900);
        DUE.is("new: mark(2)", x.mark(2, 4851), 4850);
        DUE.is("new: mark(3)", x.mark(3, 4801), 4800);
    }

    private static void written() {
        ShedStages x = new ShedStages();
        DUE.is("write(31)", x.write(31), BAD);
        DUE.is("write(127)", x.write(127), BAD);
        DUE.is("write(-1)", x.write(-1), BAD);
        DUE.is("write(MAX)", x.write(Integer.MAX_VALUE), BAD);
        DUE.is("write(32)", x.write(32), 1);
        DUE.is("write(126)", x.write(126), 2);
        for (int i = 3; i <= 200; i++) {
            DUE.is("write(98)", x.write(98), i);
        }
        DUE.is("write(98), full", x.write(98), FULL);
        DUE.is("write(31), full", x.write(31), BAD);
        DUE.is("count(11), full", x.count(11), 200);
        DUE.is("fault(), full", x.fault(), 0);
    }

    private static void wiped() {
        ShedStages x = new ShedStages();
        Due.tell(x, "b2;x");
        DUE.is("wipe()", x.wipe(), 4);
        DUE.is("wipe() again", x.wipe(), 0);
        DUE.is("count(11), wiped", x.count(11), 0);
        DUE.is("fault(), wiped", x.fault(), NONE);
        DUE.is("write(98), wiped", x.write(98), 1);
        DUE.is("count(3) stays", x.count(3), 4);
    }

    private static void faults(String text, int want) {
        ShedStages x = new ShedStages();
        Due.tell(x, text);
        DUE.is("fault() of " + text, x.fault(), want);
        DUE.is("lay() of " + text, x.lay() == NO ? 1 : 0, want == NONE && !text.isEmpty() ? 0 : 1);
        DUE.is("the length of " + text, x.wipe(), text.length());
    }

    private static void faultOfItems() {
        faults("", NONE);
        faults(";", 0);
        faults("b;", 0);
        faults("b", 0);
        faults("b3", 0);
        faults("b3;", NONE);
        faults("b0003;", NONE);
        faults("b00003;", 0);
        faults("B3;", 0);
        faults(" b3;", 0);
        faults("b3; l0,1;", 3);
        faults("b3;l0,1", 3);
        faults("b3;l0,1;;", 8);
        faults("b3;l0,1;l0,1;l1,0;", NONE);
        faults("b3;l0;", 3);
        faults("b3;l0,;", 3);
        faults("b3;l,1;", 3);
        faults("b3;l1,;", 3);
        faults("b3;l1,0002;", NONE);
        faults("b3;l1,00002;", 3);
        faults("b3;l0,1,;", 3);
        faults("b3;l0,1,2;", 3);
        faults("b3;l0,+1;", 3);
        faults("b3;l0,-1;", 3);
        faults("b3;l0.1;", 3);
        faults("b3,1;", 0);
        faults("b3;f0,5;", 3);
        faults("b3;f0,5,0;", NONE);
        faults("b3;f0,5,0,0;", 3);
        faults("b3;f0,5,0,0,0;", 3);
        faults("b3;p0,5,1;", 3);
        faults("b3;p0,5,1,1;", NONE);
        faults("b3;p0,5,1,1,1;", 3);
        faults("b3;s4800;", 3);
        faults("b3;s4800,1;", NONE);
        faults("b3;s4800,1,1;", 3);
        faults("b3;s4800,00001;", 3);
        faults("b3;r4900;", 3);
        faults("b3;r4900,1;r5000,9;", NONE);
        faults("b3;r4900,1,1;", 3);
        faults("b3;x1;", 3);
        faults("b3;b3;", 3);
        faults("b1;b1;", 3);
        faults("b3;l0,1;b3;", 8);
        for (String item : new String[] {"l0,1;", "p0,5,1,1;", "f0,5,0;", "s4800,1;", "r4900,1;"}) {
            faults(item, 0);
            faults(item + "b3;", 0);
        }
    }

    private static void faultOfRanges() {
        faults("b0;", 0);
        faults("b1;", NONE);
        faults("b6;", NONE);
        faults("b7;", 0);
        faults("b3;l1,1;", 3);
        faults("b3;l2,0;", NONE);
        faults("b3;l3,0;", 3);
        faults("b3;l0,3;", 3);
        faults("b3;p3,1,1,1;", 3);
        faults("b3;p0,0,1,1;", 3);
        faults("b3;p0,99,1,1;", NONE);
        faults("b3;p0,100,1,1;", 3);
        faults("b3;p0,1,0,1;", 3);
        faults("b3;p0,1,9,1;", NONE);
        faults("b3;p0,1,10,1;", 3);
        faults("b3;p0,1,1,0;", 3);
        faults("b3;p0,1,1,9;", NONE);
        faults("b3;p0,1,1,10;", 3);
        faults("b3;f3,1,0;", 3);
        faults("b3;f0,0,0;", 3);
        faults("b3;f0,1,0;", NONE);
        faults("b3;f0,50,5;", NONE);
        faults("b3;f0,51,5;", 3);
        faults("b3;f0,50,6;", 3);
        faults("b3;s4699,1;", 3);
        faults("b3;s4700,1;", NONE);
        faults("b3;s4999,9;", NONE);
        faults("b3;s5000,9;", 3);
        faults("b3;s4800,0;", 3);
        faults("b3;s4800,10;", 3);
        faults("b3;r4899,1;", 3);
        faults("b3;r4900,1;", NONE);
        faults("b3;r5000,9;", NONE);
        faults("b3;r5001,9;", 3);
        faults("b3;r4900,0;", 3);
        faults("b3;r4900,10;", 3);
    }

    private static void faultOfOneTooMany() {
        faults("b2;" + "l0,1;".repeat(9), NONE);
        faults("b2;" + "l0,1;".repeat(10), 3 + 9 * 5);
        faults("b2;" + "p0,1,1,1;".repeat(6), NONE);
        faults("b2;" + "p0,1,1,1;".repeat(7), 3 + 6 * 9);
        faults("b2;" + "f0,1,1;".repeat(9), NONE);
        faults("b2;" + "f0,1,1;".repeat(10), 3 + 9 * 7);
        faults("b2;" + "s4800,1;".repeat(5), NONE);
        faults("b2;" + "s4800,1;".repeat(6), 3 + 5 * 8);
        faults("b2;" + "r4900,1;".repeat(20), NONE);
    }

    private static void laid() {
        ShedStages x = new ShedStages();
        Due.tell(x, "b4;l3,1;p1,20,2,4;f3,30,5;f0,7,1;s4800,3;r4950,2;r4960,3;");
        DUE.is("lay()", x.lay(), 3);
        int[] counts = {4, 1, 1, 2, 1, 3, 0, 0, 2, 37, 0, 57};
        for (int what = 0; what < counts.length; what++) {
            DUE.is("laid: count(" + what + ")", x.count(what), counts[what]);
        }
        DUE.is("laid: at(0)", x.at(0), 0);
        DUE.is("laid: at(1)", x.at(1), 1);
        DUE.is("laid: at(2)", x.at(2), 2);
        DUE.is("laid: at(3)", x.at(3), 1);
        DUE.is("laid: F of one without PLANT", x.island(0, 1), 5000);
        DUE.is("laid: plant(0)", x.plant(0), 20);
        DUE.is("laid: mark(0)", x.mark(0, 5000), 4960);
        DUE.is("laid: mark(1)", x.mark(1, 4700), 4800);
        DUE.is("laid: mark(2)", x.mark(2, 4700), BAD);
        DUE.is("lay() again", x.lay(), 3);
        DUE.is("lay() again: mark(0)", x.mark(0, 5000), 4960);
    }

    private static void laidAnew() {
        ShedStages x = Due.laid("b2;l0,1;p0,10,1,1;f0,40,1;f1,1,0;s4990,9;");
        x.mark(1, 4989);
        x.feeder(1, 0);
        x.tick(1);
        x.link(0, 0);
        DUE.is("count(10) ahead of lay()", x.count(10), 4);
        DUE.is("counted(0, 1) ahead of lay()", x.counted(0, 1), 1);
        DUE.is("lay() anew", x.lay(), 1);
        int[] counts = {2, 1, 1, 2, 1, 1, 0, 0, 2, 41, 0, 41};
        for (int what = 0; what < counts.length; what++) {
            DUE.is("laid anew: count(" + what + ")", x.count(what), counts[what]);
        }
        DUE.is("laid anew: undo()", x.undo(), NO);
        DUE.is("laid anew: dropped(0)", x.dropped(0), NONE);
        DUE.is("laid anew: counted(0, 0)", x.counted(0, 0), 0);
        DUE.is("laid anew: counted(0, 1)", x.counted(0, 1), 0);
        DUE.is("laid anew: F", x.island(0, 1), 5000);
        DUE.is("laid anew: isClosed(0)", x.isClosed(0), 1);
        DUE.is("laid anew: plant(0)", x.plant(0), 10);
        DUE.is("laid anew: mark(1)", x.mark(1, 4700), 4990);
        Due.tell(x, "b1;");
        DUE.is("lay() of less", x.lay(), 1);
        DUE.is("laid of less: mark(0), which is told no more", x.mark(0, 4900), 4980);
        DUE.is("laid of less: mark(1)", x.mark(1, 4800), BAD);
        DUE.is("laid of less: count(3)", x.count(3), 0);
    }

    private static void givenWhenLaid() {
        ShedStages x = Due.laid("b3;l0,2;p2,30,1,1;p1,99,1,1;p0,30,1,1;p2,30,1,1;f0,50,0;f1,40,0;");
        DUE.is("the first gives all it can", x.plant(0), 30);
        DUE.is("that of another ISLAND gives its LOAD", x.plant(1), 40);
        DUE.is("the next gives the rest", x.plant(2), 20);
        DUE.is("the last gives nothing", x.plant(3), 0);
    }

    private static void notLaid() {
        ShedStages x = Due.laid("b2;l0,1;p0,10,1,1;f0,10,1;");
        x.feeder(0, 0);
        Due.tell(x, "b2;l0,1;l1,2;");
        DUE.is("lay() with a FAULT", x.lay(), NO);
        DUE.is("not laid: count(1)", x.count(1), 1);
        DUE.is("not laid: isOn(0)", x.isOn(0), 0);
        DUE.is("not laid: count(10)", x.count(10), 1);
        DUE.is("not laid: count(11)", x.count(11), 13);
        x.wipe();
        DUE.is("lay() of nothing", x.lay(), NO);
        DUE.is("nothing laid: count(0)", x.count(0), 2);
        DUE.is("nothing laid: undo()", x.undo(), 0);
        DUE.is("nothing laid: isOn(0)", x.isOn(0), 1);
    }
}
