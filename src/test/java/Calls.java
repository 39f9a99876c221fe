/** Calls that are told by their names. */
final class Calls {
    private Calls() { }

    /** The answer of an object to a call such as "link(0, 1)". */
    static int answer(ShedStages x, String call) {
        int open = call.indexOf('(');
        String inside = call.substring(open + 1, call.length() - 1);
        int[] numbers = new int[3];
        if (!inside.isEmpty()) {
            String[] words = inside.split(", ");
            for (int i = 0; i < words.length; i++) {
                numbers[i] = Integer.parseInt(words[i]);
            }
        }
        return answer(x, call.substring(0, open), numbers[0], numbers[1], numbers[2]);
    }

    /** The answer of an object to a call of that name; numbers that it does not take are left out. */
    static int answer(ShedStages x, String name, int a, int b, int c) {
        return switch (name) {
            case "write" -> x.write(a);
            case "wipe" -> x.wipe();
            case "fault" -> x.fault();
            case "lay" -> x.lay();
            case "tick" -> x.tick(a);
            case "link" -> x.link(a, b);
            case "feeder" -> x.feeder(a, b);
            case "begin" -> x.begin(a);
            case "mark" -> x.mark(a, b);
            case "undo" -> x.undo();
            case "island" -> x.island(a, b);
            case "counted" -> x.counted(a, b);
            case "at" -> x.at(a);
            case "plant" -> x.plant(a);
            case "isOn" -> x.isOn(a);
            case "isClosed" -> x.isClosed(a);
            case "dropped" -> x.dropped(a);
            case "ahead" -> x.ahead(a, b, c);
            case "least" -> x.least(a, b, c);
            case "dark" -> x.dark(a);
            case "count" -> x.count(a);
            default -> throw new IllegalArgumentException(name);
        };
    }
}
