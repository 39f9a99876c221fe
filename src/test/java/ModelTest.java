import java.util.ArrayList;
import java.util.List;
import java.util.Random;

/** Runs of calls, the same each time, on the class and on the model side by side. */
final class ModelTest {
    private static final int RUNS = 1500;
    private static final int CALLS = 512;
    private static final String[] DONE = {"tick", "tick", "tick", "link", "link", "feeder", "feeder", "begin", "mark", "undo"};
    private static final String[] ASKED = {"ahead", "least", "dark", "count", "wipe", "fault", "lay"};

    private final Due due = new Due("ModelTest");
    private final Random random = new Random(20261117L);
    private ShedStages real;
    private Model model;
    private int left;
    private final List<String> told = new ArrayList<>();

    public static void main(String[] args) {
        ModelTest test = new ModelTest();
        for (int run = 0; run < RUNS; run++) {
            test.oneRun(run);
        }
        test.due.end();
    }

    private void oneRun(int run) {
        real = new ShedStages();
        model = new Model();
        told.clear();
        left = CALLS;
        if (run % 8 != 0) {
            tellText();
            call("fault", 0, 0, 0);
            call("lay", 0, 0, 0);
        }
        while (left > 0) {
            if (random.nextInt(4) > 0) {
                doSomething();
            } else {
                askSomething();
            }
            look();
        }
    }

    private void doSomething() {
        switch (DONE[random.nextInt(DONE.length)]) {
            case "tick" -> call("tick", ticks(random.nextInt(5) == 0 ? 60 : 4), 0, 0);
            case "link" -> call("link", number(count(1)), number(2), 0);
            case "feeder" -> call("feeder", number(count(3)), number(2), 0);
            case "begin" -> call("begin", number(count(0)), 0, 0);
            case "mark" -> someMark();
            default -> call("undo", 0, 0, 0);
        }
    }

    private void someMark() {
        int s = number(count(4) + 1);
        int m = random.nextInt(10) == 0 ? 4699 + random.nextInt(303) : 4880 + random.nextInt(120);
        call("mark", s, m, 0);
    }

    private void askSomething() {
        switch (ASKED[random.nextInt(ASKED.length)]) {
            case "ahead" -> call("ahead", ticks(60), number(count(0)), number(5));
            case "least" -> call("least", number(count(5)), ticks(30), number(2));
            case "dark" -> call("dark", number(count(0)), 0, 0);
            case "count" -> call("count", number(12), 0, 0);
            case "wipe" -> rarely("wipe");
            case "fault" -> call("fault", 0, 0, 0);
            default -> rarely("lay");
        }
    }

    private void rarely(String name) {
        if (random.nextInt(10) == 0) {
            call(name, 0, 0, 0);
        }
    }

    /** A little of how things stand. */
    private void look() {
        call("island", number(count(5)), number(9), 0);
        call("island", number(count(5)), 1, 0);
        call("counted", number(count(5)), number(count(4) + 1), 0);
        switch (random.nextInt(5)) {
            case 0 -> call("at", number(count(0)), 0, 0);
            case 1 -> call("plant", number(count(2)), 0, 0);
            case 2 -> call("isOn", number(count(3)), 0, 0);
            case 3 -> call("isClosed", number(count(1)), 0, 0);
            default -> call("dropped", number(3), 0, 0);
        }
    }

    private int count(int what) {
        return model.call("count", what, 0, 0);
    }

    /** Mostly one below that, now and then the wrong ones beside. */
    private int number(int below) {
        return random.nextInt(25) == 0 ? (random.nextBoolean() ? -1 : below) : random.nextInt(Math.max(1, below));
    }

    private int ticks(int most) {
        return random.nextInt(40) == 0 ? (random.nextBoolean() ? 0 : 61) : 1 + random.nextInt(most);
    }

    private void tellText() {
        String text = someText();
        if (random.nextInt(6) == 0) {
            int place = random.nextInt(text.length());
            String letters = "blpfsr,;0123456789 x";
            text = text.substring(0, place) + letters.charAt(random.nextInt(letters.length()))
                    + text.substring(place + random.nextInt(2));
        }
        for (int i = 0; i < text.length(); i++) {
            call("write", text.charAt(i), 0, 0);
        }
    }

    private String someText() {
        int buses = 1 + random.nextInt(6);
        StringBuilder text = new StringBuilder("b" + buses + ";");
        int items = 6 + random.nextInt(22);
        for (int i = 0; i < items; i++) {
            text.append(someItem(buses));
        }
        return text.length() <= 200 ? text.toString() : text.substring(0, text.lastIndexOf(";", 198) + 1);
    }

    private String someItem(int buses) {
        int bus = random.nextInt(buses);
        switch (random.nextInt(12)) {
            case 0: case 1: case 2:
                return buses == 1 ? "" : "l" + bus + "," + (bus + 1 + random.nextInt(buses - 1)) % buses + ";";
            case 3: case 4: case 5:
                return "p" + bus + "," + (5 + random.nextInt(60)) + "," + (1 + random.nextInt(6)) + ","
                        + (2 + random.nextInt(8)) + ";";
            case 6: case 7: case 8: case 9:
                return "f" + bus + "," + (1 + random.nextInt(30)) + "," + random.nextInt(6) + ";";
            case 10:
                return "s" + (4850 + random.nextInt(150)) + "," + (1 + random.nextInt(4)) + ";";
            default:
                return random.nextInt(3) > 0 ? "" : "r" + (4900 + random.nextInt(101)) + "," + (1 + random.nextInt(5)) + ";";
        }
    }

    private void call(String name, int a, int b, int c) {
        if (left == 0) {
            return;
        }
        left--;
        told.add(name + "(" + a + ", " + b + ", " + c + ")");
        int got = Calls.answer(real, name, a, b, c);
        int want = model.call(name, a, b, c);
        due.is(name + "(" + a + ", " + b + ", " + c + ")", got, want);
        if (got != want) {
            System.out.println("the run: " + told);
            due.end();
        }
    }
}
