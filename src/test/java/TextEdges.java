/** Boundary cases of THE TEXT: terms 1, and promises 1 to 5. */
final class TextEdges {
    private static final int BAD = ShedStages.BAD;
    private static final int NO = ShedStages.NO;
    private static final int FULL = ShedStages.FULL;
    private static final int NONE = ShedStages.NONE;

    /** 197 letters; each 0 that is put ahead of its first number makes it one longer, three at most. */
    private static final String LONG = "6;" + "l0,1;".repeat(9) + "p0,1,1,1;".repeat(6) + "f0,1,1;".repeat(9)
            + "s4800,1;".repeat(4);
    private static final String AT_FIRST =
            "b3;l0,1;l1,2;p0,60,3,6;p2,30,5,3;f0,20,1;f1,25,2;f2,15,0;f1,10,3;s4900,2;s4850,2;s4800,1;";

    private TextEdges() { }

    static void all(Edge edge) {
        edge.of("(1 to 6).", TextEdges::buses);
        edge.of("LINKS (9 at most)", TextEdges::links);
        edge.of("join two unlike BUSES each, CLOSED or OPEN.", TextEdges::unlikeBuses);
        edge.of("PLANTS (6 at most) are at a BUS,", TextEdges::plants);
        edge.of("of a CAP (1 to 99),", TextEdges::cap);
        edge.of("a PACE (1 to 9),", TextEdges::pace);
        edge.of("HEAVY (1 to 9).", TextEdges::heavy);
        edge.of("FEEDERS (9 at most) are at a BUS,", TextEdges::feeders);
        edge.of("of a LOAD (1 to 50),", TextEdges::load);
        edge.of("of a STAGE (0 to 5;", TextEdges::stageOfFeeder);
        edge.of("0: never dropped by one).", TextEdges::stageNought);
        edge.of("STAGES are 1, 2, .. (5 at most)", TextEdges::stages);
        edge.of("with a MARK (4700 to 4999)", TextEdges::markOfStage);
        edge.of("and a WAIT (1 to 9).", TextEdges::waitOfStage);
        edge.of("THE TEXT is letters (200 at most).", TextEdges::empty);
        edge.of("THE TEXT is letters (200 at most).", TextEdges::oneLetter);
        edge.of("THE TEXT is letters (200 at most).", TextEdges::letters199);
        edge.of("THE TEXT is letters (200 at most).", TextEdges::letters200);
        edge.of("A TEXT is ITEMS one behind the other, a ; behind each;", TextEdges::items);
        edge.of("numbers have one to four figures:", TextEdges::figures);
        edge.of("numbers have one to four figures:", TextEdges::noFigures);
        edge.of("bB there are B BUSES; once, first of all ITEMS", TextEdges::busesOnceAndFirst);
        edge.of("lI,J the next LINK, CLOSED (of several of the same two each is one)", TextEdges::sameLinks);
        edge.of("pB,C,P,H the next PLANT: at BUS B, CAP C, PACE P, HEAVY H", TextEdges::plantItem);
        edge.of("fB,L,S the next FEEDER: at BUS B, LOAD L, STAGE S", TextEdges::feederItem);
        edge.of("(one that is not told: like 0)", TextEdges::stageNotTold);
        edge.of("sM,W the next STAGE: MARK M, WAIT W", TextEdges::stageItem);
        edge.of("rM,W the way BACK: MARK M (4900 to 5000),", TextEdges::markOfBack);
        edge.of("WAIT W (1 to 9)", TextEdges::waitOfBack);
        edge.of("(4980, 4 without;", TextEdges::backWithout);
        edge.of("of several the last one counts)", TextEdges::backLast);
        edge.of("FAULT: the place (from 0 on) of the first letter of the first ITEM that is not so", TextEdges::firstFault);
        edge.of("(or is one too many).", TextEdges::oneTooMany);
        edge.of("LAID is a TEXT without FAULT that tells of BUSES (NO else;", TextEdges::notLaid);
        edge.of("at first " + AT_FIRST + ").", TextEdges::atFirst);
        promises(edge);
    }

    private static void promises(Edge edge) {
        edge.of("As told; THE TEXT is empty.", TextEdges::newObject);
        edge.of("A letter (32 to 126, as in ASCII)", TextEdges::writeBounds);
        edge.of("comes behind THE TEXT: how long it is. BAD;", TextEdges::writeBehind);
        edge.of("FULL: it has 200.", TextEdges::writeFull);
        edge.of("THE TEXT is empty: how long it was.", TextEdges::wiped);
        edge.of("FAULT of THE TEXT. NONE.", TextEdges::faultNone);
        edge.of("LAID: how many ISLANDS;", TextEdges::layIslands);
        edge.of("no TICKS, COUNTS 0, nothing dropped, nothing can be UNDONE.", TextEdges::layForgets);
        edge.of("NO.", TextEdges::layNo);
        edge.of("THE TEXT stays when it is LAID.", TextEdges::textStays);
    }

    /** A TEXT whose FAULT is there and that can not be LAID. */
    private static void faulty(Edge edge, String text, int place) {
        Run x = edge.told(text);
        edge.is("fault() of " + text, x.call("fault()"), place);
        x.refused("lay()", NO);
    }

    /** A TEXT that has no FAULT and can be LAID. */
    private static Run fine(Edge edge, String text) {
        Run x = edge.told(text);
        edge.is("fault() of " + text, x.call("fault()"), NONE);
        edge.holds("lay() of " + text, x.call("lay()") >= 1);
        return x;
    }

    /** One number (#) of an ITEM behind b6; with its lowest and its highest. */
    private static void range(Edge edge, String item, int lowest, int highest) {
        for (int n : new int[] {lowest, lowest + 1, highest - 1, highest}) {
            fine(edge, "b6;" + item.replace("#", String.valueOf(n)));
        }
        for (int n : new int[] {lowest - 1, highest + 1, highest + 2, 9999}) {
            if (n >= 0) {
                faulty(edge, "b6;" + item.replace("#", String.valueOf(n)), 3);
            }
        }
    }

    private static void many(Edge edge, String item, int most, int what) {
        fine(edge, "b2;").due("count(" + what + ")", 0);
        fine(edge, "b2;" + item).due("count(" + what + ")", 1);
        fine(edge, "b2;" + item.repeat(most - 1)).due("count(" + what + ")", most - 1);
        fine(edge, "b2;" + item.repeat(most)).due("count(" + what + ")", most);
        faulty(edge, "b2;" + item.repeat(most + 1), 3 + most * item.length());
        faulty(edge, "b2;" + item.repeat(most + 2), 3 + most * item.length());
    }

    private static void buses(Edge edge) {
        faulty(edge, "b0;", 0);
        fine(edge, "b1;").due("count(0)", 1).due("at(0)", 0).refused("at(1)", BAD);
        fine(edge, "b6;").due("count(0)", 6).due("at(5)", 5).refused("at(6)", BAD);
        faulty(edge, "b7;", 0);
        faulty(edge, "b16;", 0);
        faulty(edge, "b9999;", 0);
    }

    private static void links(Edge edge) {
        many(edge, "l0,1;", 9, 1);
        fine(edge, "b2;" + "l0,1;".repeat(9)).due("isClosed(8)", 1).refused("isClosed(9)", BAD);
    }

    private static void unlikeBuses(Edge edge) {
        for (int b = 0; b < 6; b++) {
            faulty(edge, "b6;l" + b + "," + b + ";", 3);
        }
        fine(edge, "b6;l0,5;").due("isClosed(0)", 1).does("link(0, 0)").due("isClosed(0)", 0);
        fine(edge, "b6;l5,0;");
        faulty(edge, "b6;l0,6;", 3);
        faulty(edge, "b6;l6,0;", 3);
        faulty(edge, "b1;l0,1;", 3);
        faulty(edge, "b1;l1,0;", 3);
        faulty(edge, "b1;l0,0;", 3);
    }

    private static void plants(Edge edge) {
        many(edge, "p0,9,1,1;", 6, 2);
        fine(edge, "b2;" + "p0,9,1,1;".repeat(6)).due("plant(5)", 0).refused("plant(6)", BAD);
        range(edge, "p#,9,1,1;", 0, 5);
    }

    private static void cap(Edge edge) {
        range(edge, "p0,#,1,1;", 1, 99);
        fine(edge, "b1;p0,1,1,1;").due("island(0, 4)", 1);
        fine(edge, "b1;" + "p0,99,1,1;".repeat(6)).due("island(0, 4)", 594);
    }

    private static void pace(Edge edge) {
        range(edge, "p0,1,#,1;", 1, 9);
        fine(edge, "b1;p0,50,1,1;f0,50,0;").does("feeder(0, 0)", "tick(1)").due("plant(0)", 49);
        fine(edge, "b1;p0,50,9,1;f0,50,0;").does("feeder(0, 0)", "tick(1)").due("plant(0)", 41);
    }

    private static void heavy(Edge edge) {
        range(edge, "p0,1,1,#;", 1, 9);
        fine(edge, "b1;p0,1,1,1;").due("island(0, 5)", 1);
        fine(edge, "b1;" + "p0,1,1,9;".repeat(6)).due("island(0, 5)", 54);
    }

    private static void feeders(Edge edge) {
        many(edge, "f0,9,1;", 9, 3);
        fine(edge, "b2;" + "f0,9,1;".repeat(9)).due("isOn(8)", 1).refused("isOn(9)", BAD);
        range(edge, "f#,9,1;", 0, 5);
    }

    private static void load(Edge edge) {
        range(edge, "f0,#,1;", 1, 50);
        fine(edge, "b1;f0,1,0;").due("island(0, 2)", 1);
        fine(edge, "b1;" + "f0,50,0;".repeat(9)).due("island(0, 2)", 450);
    }

    private static void stageOfFeeder(Edge edge) {
        range(edge, "f0,9,#;", 0, 5);
        // F is 4998 behind the first TICK: each STAGE drops its own at once
        Run x = fine(edge, "b1;p0,49,1,5;f0,45,0;f0,1,1;f0,1,2;f0,1,3;f0,1,4;f0,1,5;" + "s4999,1;".repeat(5));
        x.due("tick(1)", 5).due("isOn(0)", 1).due("isOn(1)", 0).due("isOn(5)", 0);
    }

    private static void stageNought(Edge edge) {
        // F falls by 1 a TICK, from 5000 to 4940: below 4999 in 59 of 60 TICKS
        Run x = edge.laid("b1;p0,49,1,9;p0,1,1,1;f0,50,0;f0,1,0;s4999,1;");
        x.due("tick(60)", 0).due("island(0, 1)", 4940).due("counted(0, 1)", 59).due("count(8)", 2);
        edge.laid("b1;p0,49,1,9;p0,1,1,1;f0,50,0;f0,1,1;s4999,1;").due("tick(1)", 0).due("tick(1)", 1);
    }

    private static void stages(Edge edge) {
        many(edge, "s4800,1;", 5, 4);
        fine(edge, "b2;" + "s4800,1;".repeat(5)).due("counted(0, 5)", 0).refused("counted(0, 6)", BAD);
        fine(edge, "b2;").due("counted(0, 0)", 0).refused("counted(0, 1)", BAD);
    }

    private static void markOfStage(Edge edge) {
        range(edge, "s#,1;", 4700, 4999);
        // F is 4999, then 4998: below 4999 only then
        edge.laid("b1;p0,49,1,9;p0,1,1,1;f0,50,0;f0,1,1;s4999,1;", "tick(1)").due("counted(0, 1)", 0)
                .due("tick(1)", 1);
        // F is 4700: not below 4700
        edge.laid("b1;p0,20,1,1;f0,49,0;f0,1,1;s4700,1;").due("tick(1)", 0).due("island(0, 1)", 4700)
                .due("counted(0, 1)", 0);
    }

    private static void waitOfStage(Edge edge) {
        range(edge, "s4800,#;", 1, 9);
        String text = "b1;p0,49,1,1;f0,49,0;f0,1,1;s4999,";
        edge.laid(text + "1;").due("tick(1)", 1);
        edge.laid(text + "9;").due("tick(8)", 0).due("counted(0, 1)", 8).due("tick(1)", 1).due("counted(0, 1)", 0);
    }

    private static void empty(Edge edge) {
        edge.made().due("count(11)", 0).due("fault()", NONE).refused("lay()", NO).due("wipe()", 0).due("count(11)", 0);
    }

    private static void oneLetter(Edge edge) {
        for (char letter : new char[] {'b', ';', '0', ' ', '~'}) {
            edge.made().due("write(" + (int) letter + ")", 1).due("count(11)", 1).due("fault()", 0)
                    .refused("lay()", NO).due("wipe()", 1).due("count(11)", 0);
        }
    }

    /** Each of its letters counts: there are six BUSES, and as many LINKS, PLANTS and FEEDERS as can be. */
    private static void longOne(Edge edge, String text) {
        Run x = edge.told(text);
        x.due("count(11)", text.length()).due("fault()", NONE).due("lay()", 5);
        int[] want = {6, 9, 6, 9, 4};
        for (int what = 0; what < want.length; what++) {
            x.due("count(" + what + ")", want[what]);
        }
        x.due("count(11)", text.length());
    }

    private static void letters199(Edge edge) {
        String text = "b00" + LONG;
        edge.is("its length", text.length(), 199);
        longOne(edge, text);
        edge.told(text.substring(0, 198)).due("write(59)", 199).due("fault()", NONE).due("wipe()", 199);
        edge.told(text).due("write(59)", 200).due("fault()", 199).refused("lay()", NO).refused("write(59)", FULL);
    }

    private static void letters200(Edge edge) {
        String text = "b000" + LONG;
        edge.is("its length", text.length(), 200);
        longOne(edge, text);
        edge.told(text.substring(0, 199)).due("write(59)", 200).due("fault()", NONE).refused("write(59)", FULL)
                .due("fault()", NONE).due("lay()", 5).refused("write(98)", FULL).due("wipe()", 200).due("write(98)", 1);
        edge.told(text.substring(0, 199)).due("write(49)", 200).due("fault()", 192).refused("lay()", NO)
                .refused("write(59)", FULL);
    }

    private static void items(Edge edge) {
        faulty(edge, "b2", 0);
        faulty(edge, "b2;l0,1", 3);
        faulty(edge, "b2;l0,1;l", 8);
        faulty(edge, ";", 0);
        faulty(edge, ";b2;", 0);
        faulty(edge, "b2;;", 3);
        faulty(edge, "b2;;l0,1;", 3);
        faulty(edge, "b2; l0,1;", 3);
        faulty(edge, "b2;l0,1 ;", 3);
        faulty(edge, "b2;l 0,1;", 3);
        faulty(edge, "b2 ;", 0);
        faulty(edge, "b2:l0,1;", 0);
        faulty(edge, "b2l0,1;", 0);
        faulty(edge, "b2;l0;1;", 3);
        for (char kind = 32; kind <= 126; kind++) {
            if ("blpfsr".indexOf(kind) < 0) {
                faulty(edge, "b2;" + kind + "0,1;", 3);
            }
        }
        fine(edge, "b2;l0,1;");
    }

    /** An ITEM behind b3; in which one number has so many figures. */
    private static void figures(Edge edge) {
        fine(edge, "b3;");
        fine(edge, "b0003;").due("count(0)", 3);
        faulty(edge, "b00003;", 0);
        String[] items = {"l0,#;", "l#,1;", "p#,9,1,1;", "p0,#,1,1;", "p0,9,#,1;", "p0,9,1,#;", "f#,9,1;", "f0,#,1;",
            "f0,9,#;", "s4800,#;", "r4900,#;"};
        for (String item : items) {
            for (String number : new String[] {"2", "02", "002", "0002"}) {
                fine(edge, "b3;" + item.replace("#", number));
            }
            faulty(edge, "b3;" + item.replace("#", "00002"), 3);
            faulty(edge, "b3;" + item.replace("#", "000000000002"), 3);
        }
        fine(edge, "b3;s4800,1;r4900,1;");
        faulty(edge, "b3;s04800,1;", 3);
        faulty(edge, "b3;r04900,1;", 3);
        // by wrap-around these would be 2
        faulty(edge, "b3;l0,4294967298;", 3);
        faulty(edge, "b4294967298;", 0);
    }

    /** One that has none, or another letter: those beside 0 and 9, too. */
    private static void noFigures(Edge edge) {
        String[] items = {"l0,#;", "l#,1;", "p#,9,1,1;", "p0,#,1,1;", "p0,9,#,1;", "p0,9,1,#;", "f#,9,1;", "f0,#,1;",
            "f0,9,#;", "s#,1;", "s4800,#;", "r#,1;", "r4900,#;"};
        for (String item : items) {
            for (String number : new String[] {"", "/", ":", "+2", "-2", " 2", "2 ", "2.", "x", ","}) {
                faulty(edge, "b3;" + item.replace("#", number), 3);
            }
        }
        for (String number : new String[] {"", "/", ":", "+2", "-2", "2,", ",2", "x"}) {
            faulty(edge, "b" + number + ";", 0);
            // what was read ahead of it is not taken for it
            edge.laid("b2;", "wipe()").tell("b" + number + ";").due("fault()", 0).refused("lay()", NO);
        }
    }

    private static void busesOnceAndFirst(Edge edge) {
        fine(edge, "b3;l0,1;");
        faulty(edge, "b3;b3;", 3);
        faulty(edge, "b1;b1;", 3);
        faulty(edge, "b3;l0,1;b4;", 8);
        faulty(edge, "b3,3;", 0);
        for (String item : new String[] {"l0,1;", "p0,9,1,1;", "f0,9,1;", "s4800,1;", "r4900,1;"}) {
            faulty(edge, item, 0);
            faulty(edge, item + "b3;", 0);
        }
        faulty(edge, "b7;b3;", 0);
        faulty(edge, "B3;", 0);
    }

    private static void sameLinks(Edge edge) {
        Run x = fine(edge, "b2;l0,1;l1,0;l0,1;");
        x.due("count(1)", 3).due("isClosed(0)", 1).due("isClosed(1)", 1).due("isClosed(2)", 1).due("count(5)", 1);
        x.due("link(0, 0)", 1).due("link(2, 0)", 1).due("link(1, 0)", 2);
        faulty(edge, "b2;l0;", 3);
        faulty(edge, "b2;l0,1,1;", 3);
        faulty(edge, "b2;l;", 3);
    }

    private static void plantItem(Edge edge) {
        Run x = fine(edge, "b2;p1,20,3,4;f1,15,0;");
        x.due("island(0, 4)", 0).due("island(1, 4)", 20).due("island(1, 5)", 4).due("plant(0)", 15);
        x.does("feeder(0, 0)", "tick(1)").due("plant(0)", 12);
        faulty(edge, "b2;p1,20,3;", 3);
        faulty(edge, "b2;p1,20,3,4,5;", 3);
        faulty(edge, "b2;p1;", 3);
        faulty(edge, "b2;p;", 3);
    }

    private static void feederItem(Edge edge) {
        Run x = fine(edge, "b2;p1,12,9,9;p1,1,1,1;f0,7,0;f1,12,0;f1,2,2;s4700,1;s4999,2;");
        x.due("island(0, 2)", 7).due("island(1, 2)", 14).due("isOn(2)", 1);
        // F is 4999, 4998 and 4997: STAGE 2 drops in the third TICK
        x.due("tick(1)", 1).due("tick(1)", 0).due("isOn(2)", 1).due("tick(1)", 1).due("isOn(2)", 0);
        faulty(edge, "b2;f1,12;", 3);
        faulty(edge, "b2;f1,12,0,0;", 3);
        faulty(edge, "b2;f1;", 3);
        faulty(edge, "b2;f;", 3);
    }

    private static void stageNotTold(Edge edge) {
        for (int told = 0; told <= 5; told++) {
            Run x = fine(edge, "b1;f0,1,1;f0,1,2;f0,1,3;f0,1,4;f0,1,5;" + "s4999,1;".repeat(told) + "p0,4,1,1;");
            // F is 4990 behind the first TICK
            x.due("tick(1)", told);
            for (int f = 0; f < 5; f++) {
                x.due("isOn(" + f + ")", f < told ? 0 : 1);
            }
        }
    }

    private static void stageItem(Edge edge) {
        Run x = fine(edge, "b1;s4701,2;s4802,3;");
        x.due("mark(1, 4999)", 4701).due("mark(2, 4999)", 4802).refused("mark(3, 4999)", BAD);
        faulty(edge, "b1;s4800;", 3);
        faulty(edge, "b1;s4800,1,1;", 3);
        faulty(edge, "b1;s;", 3);
    }

    private static void markOfBack(Edge edge) {
        range(edge, "r#,1;", 4900, 5000);
        fine(edge, "b1;r4900,1;").due("mark(0, 4950)", 4900);
        fine(edge, "b1;r5000,1;").due("mark(0, 4950)", 5000);
        faulty(edge, "b1;r4900;", 3);
        faulty(edge, "b1;r4900,1,1;", 3);
        faulty(edge, "b1;r;", 3);
    }

    private static void waitOfBack(Edge edge) {
        range(edge, "r4900,#;", 1, 9);
        String text = "b1;p0,9,1,9;f0,9,0;r4900,";
        edge.laid(text + "1;", "feeder(0, 0)", "tick(1)").due("isOn(0)", 1).due("counted(0, 0)", 0);
        edge.laid(text + "9;", "feeder(0, 0)", "tick(8)").due("isOn(0)", 0).due("counted(0, 0)", 8).does("tick(1)")
                .due("isOn(0)", 1).due("counted(0, 0)", 0);
    }

    private static void backWithout(Edge edge) {
        edge.laid("b1;").due("mark(0, 4950)", 4980);
        edge.made().due("mark(0, 4950)", 4980);
        edge.laid("b1;p0,9,1,9;f0,9,0;", "feeder(0, 0)", "tick(3)").due("isOn(0)", 0).does("tick(1)").due("isOn(0)", 1);
        // what was told is forgotten with the next TEXT
        edge.laid("b1;r4900,1;", "wipe()").tell("b1;p0,9,1,9;f0,9,0;").does("lay()", "feeder(0, 0)", "tick(3)")
                .due("isOn(0)", 0).does("tick(1)").due("isOn(0)", 1).due("mark(0, 4950)", 4980);
    }

    private static void backLast(Edge edge) {
        Run x = fine(edge, "b1;r4900,1;p0,9,1,9;r5000,9;f0,9,0;r4960,2;");
        x.due("mark(0, 4961)", 4960).does("feeder(0, 0)", "tick(1)").due("isOn(0)", 0).does("tick(1)").due("isOn(0)", 1);
        fine(edge, "b1;" + "r4900,1;".repeat(24)).due("mark(0, 4950)", 4900);
        faulty(edge, "b1;r4900,1;r4899,1;", 11);
    }

    private static void firstFault(Edge edge) {
        faulty(edge, "x", 0);
        faulty(edge, "b2;l0,2;l0,3;", 3);
        faulty(edge, "b2;l0,1;l0,2;b2;", 8);
        faulty(edge, "b2;l0,1;l0,1;x;", 13);
        faulty(edge, "b00" + LONG + ";", 199);
        faulty(edge, "b00" + LONG + "x", 199);
        faulty(edge, "~".repeat(200), 0);
        faulty(edge, "b2;" + "~".repeat(197), 3);
    }

    private static void oneTooMany(Edge edge) {
        faulty(edge, "b2;b2;", 3);
        faulty(edge, "b2;" + "l0,1;".repeat(10), 48);
        faulty(edge, "b2;" + "p0,1,1,1;".repeat(7), 57);
        faulty(edge, "b2;" + "f0,1,1;".repeat(10), 66);
        faulty(edge, "b2;" + "s4800,1;".repeat(6), 43);
        // of several kinds each is counted for itself
        fine(edge, "b2;l0,1;s4800,1;" + "s4800,1;".repeat(4) + "l0,1;".repeat(8));
    }

    private static void notLaid(Edge edge) {
        edge.made("tick(1)", "feeder(0, 0)").refused("lay()", NO);
        edge.made("tick(1)", "feeder(0, 0)").tell("b2").refused("lay()", NO);
        edge.made("tick(1)", "feeder(0, 0)").tell("b2;b2;").refused("lay()", NO);
        edge.laid("b1;", "wipe()").refused("lay()", NO).due("count(0)", 1);
        edge.laid("b1;").due("lay()", 1);
    }

    private static void atFirst(Edge edge) {
        Run x = edge.laid(AT_FIRST, "wipe()");
        edge.holds("it is as if that had been LAID", x.seen().equals(edge.made().seen()));
    }

    private static void newObject(Edge edge) {
        Run x = edge.made();
        x.due("count(11)", 0).due("fault()", NONE).refused("lay()", NO).refused("undo()", NO).due("wipe()", 0);
        x.due("count(0)", 3).due("count(7)", 0).due("count(10)", 0).due("write(98)", 1);
    }

    private static void writeBounds(Edge edge) {
        edge.made().bounds("write(#)", 32, 126);
        edge.told("b2;l0,").bounds("write(#)", 32, 126);
    }

    private static void writeBehind(Edge edge) {
        Run x = edge.made();
        x.refused("write(31)", BAD).due("write(98)", 1).due("write(50)", 2).refused("write(127)", BAD);
        x.due("write(59)", 3).due("fault()", NONE).due("lay()", 2);
    }

    private static void writeFull(Edge edge) {
        Run x = edge.told(" ".repeat(199));
        x.due("write(32)", 200).refused("write(32)", FULL).refused("write(126)", FULL).due("count(11)", 200);
        // BAD is ahead of FULL
        x.refused("write(31)", BAD).refused("write(127)", BAD);
    }

    private static void wiped(Edge edge) {
        edge.made().due("wipe()", 0).due("wipe()", 0);
        edge.told("b").due("wipe()", 1).due("wipe()", 0).due("fault()", NONE);
        edge.told("b".repeat(200)).due("wipe()", 200).due("count(11)", 0).due("write(98)", 1);
        // what is LAID stays, and what can be UNDONE
        edge.laid("b2;", "tick(1)", "wipe()").due("count(0)", 2).due("count(7)", 1)
                .due("undo()", 0);
    }

    private static void faultNone(Edge edge) {
        edge.made().due("fault()", NONE);
        edge.told("b1;").due("fault()", NONE).due("fault()", NONE);
        edge.told("b1;x").due("fault()", 3).due("fault()", 3).due("count(11)", 4);
        // asking changes nothing of what is LAID
        edge.laid("b1;", "wipe()").tell("b3;l0,1;").due("fault()", NONE).due("count(0)", 1).due("count(1)", 0);
    }

    private static void layIslands(Edge edge) {
        for (int b = 1; b <= 6; b++) {
            edge.told("b" + b + ";").due("lay()", b);
        }
        edge.told("b6;l0,1;l1,2;l2,3;l3,4;l4,5;").due("lay()", 1);
    }

    private static void layForgets(Edge edge) {
        String text = "b2;l0,1;p0,10,1,9;f0,20,1;f1,1,0;s4999,9;";
        Run x = edge.laid(text, "tick(2)", "feeder(1, 0)", "mark(1, 4800)", "link(0, 0)");
        x.due("count(7)", 2).due("counted(0, 1)", 2).due("counted(1, 1)", 2).due("dropped(0)", 1).due("count(10)", 4);
        x.due("lay()", 1).due("count(7)", 0).due("counted(0, 0)", 0).due("counted(0, 1)", 0).due("dropped(0)", NONE);
        x.due("count(10)", 0).refused("undo()", NO);
        edge.holds("as if it had been LAID the first time", x.seen().equals(edge.laid(text).seen()));
        // COUNTS of an ISLAND that is parted later are 0, too
        x.does("link(0, 0)").due("counted(1, 0)", 0).due("counted(1, 1)", 0);
    }

    private static void layNo(Edge edge) {
        String[] changes = {"tick(1)", "feeder(1, 0)", "mark(1, 4800)", "link(0, 0)"};
        edge.made(changes).refused("lay()", NO);
        for (String text : new String[] {"b", "b0;", "b2;l0,1", "b2;;", "s4800,1;"}) {
            edge.made(changes).tell(text).refused("lay()", NO);
        }
    }

    private static void textStays(Edge edge) {
        Run x = edge.laid("b2;");
        x.due("count(11)", 3).due("fault()", NONE).due("lay()", 2).tell("l0,1;").due("count(11)", 8).due("lay()", 1);
        x.due("wipe()", 8);
        edge.told("b2;x").refused("lay()", NO).due("wipe()", 4);
    }
}
