/** Compares the answers of one test with those that are due. */
final class Due {
    private final String test;
    private int calls;
    private int wrong;

    Due(String test) {
        this.test = test;
    }

    void is(String call, int got, int want) {
        calls++;
        if (got != want) {
            wrong++;
            System.out.println(test + ": " + call + " answered " + got + ", due is " + want);
        }
    }

    void holds(String what, boolean so) {
        is(what, so ? 1 : 0, 1);
    }

    int calls() {
        return calls;
    }

    void end() {
        System.out.println(test + ": " + calls + " answers, " + wrong + " not as due");
        if (wrong != 0) {
            System.exit(1);
        }
    }

    /** THE TEXT of an object becomes this one. */
    static void tell(ShedStages x, String text) {
        x.wipe();
        for (int i = 0; i < text.length(); i++) {
            x.write(text.charAt(i));
        }
    }

    /** A new object on which a text is LAID. */
    static ShedStages laid(String text) {
        ShedStages x = new ShedStages();
        tell(x, text);
        if (x.lay() < 1) {
            System.out.println("can not be LAID: " + text);
            System.exit(1);
        }
        return x;
    }
}
