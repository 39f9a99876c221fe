import java.io.IOException;
import java.lang.reflect.Method;
import java.lang.reflect.Modifier;
import java.nio.file.Files;
import java.nio.file.Path;
import java.util.List;
import java.util.Map;
import java.util.Set;
import java.util.TreeMap;
import java.util.TreeSet;
import java.util.regex.Matcher;
import java.util.regex.Pattern;
import java.util.stream.Collectors;
import java.util.stream.Stream;

/** What README.md says of the use of the class and of its tests. */
final class ReadmeTest {
    private static final Due DUE = new Due("ReadmeTest");
    private static final Pattern REFUSED = Pattern.compile("\\b(BAD|NO|FULL|NONE)\\b");
    /** So many that a LINK can join two of them. */
    private static final String BUSES = "b2;";

    private ReadmeTest() { }

    public static void main(String[] args) throws IOException {
        String page = Files.readString(Path.of("README.md"));
        String document = Files.readString(Path.of("../shared/DOC.md"));
        example(page);
        calls(page, document);
        constants(page);
        items(page);
        names(page);
        tests(page);
        DUE.end();
    }

    private static Set<String> all(Pattern pattern, String where) {
        Set<String> found = new TreeSet<>();
        Matcher m = pattern.matcher(where);
        while (m.find()) {
            found.add(m.group(1));
        }
        return found;
    }

    private static Map<String, Method> face() {
        Map<String, Method> face = new TreeMap<>();
        for (Method m : ShedStages.class.getDeclaredMethods()) {
            if (Modifier.isPublic(m.getModifiers())) {
                face.put(m.getName(), m);
            }
        }
        return face;
    }

    private static int number(String answer) {
        return switch (answer) {
            case "BAD" -> ShedStages.BAD;
            case "NO" -> ShedStages.NO;
            case "FULL" -> ShedStages.FULL;
            case "NONE" -> ShedStages.NONE;
            default -> Integer.parseInt(answer);
        };
    }

    /** The example, call by call: each one of the face is in it, and each has its answer. */
    private static void example(String page) {
        String code = page.substring(page.indexOf("```java"), page.indexOf("```\n", page.indexOf("```java") + 7));
        Matcher text = Pattern.compile("String text = \"([^\"]*)\";").matcher(code);
        DUE.holds("the example has a text", text.find());
        ShedStages x = new ShedStages();
        Due.tell(x, text.group(1));
        String asked = code.substring(code.indexOf("}\n") + 2);
        Set<String> used = new TreeSet<>(Set.of("write"));
        for (String line : asked.split("\n")) {
            Matcher call = Pattern.compile("^x\\.((\\w+)\\([^)]*\\)); +// (-?\\d+|BAD|NO|FULL|NONE): \\S.*$").matcher(line);
            boolean isCall = call.find();
            DUE.holds("a call with its answer: " + line, isCall || line.isEmpty());
            if (isCall) {
                used.add(call.group(2));
                DUE.is("the example's " + call.group(1), Calls.answer(x, call.group(1)), number(call.group(3)));
            }
        }
        DUE.holds("the example has all calls, not only " + used, used.equals(face().keySet()));
    }

    /** The table of calls: their numbers as in the face, what they refuse as in the document. */
    private static void calls(String page, String document) {
        Map<String, Method> face = face();
        Set<String> told = new TreeSet<>();
        Matcher row = Pattern.compile("(?m)^\\| `(\\w+)\\(([^)]*)\\)` \\|.*\\|([^|]*)\\|$").matcher(page);
        while (row.find()) {
            String name = row.group(1);
            DUE.holds(name + " is told once", told.add(name));
            if (face.containsKey(name)) {
                int numbers = row.group(2).isEmpty() ? 0 : row.group(2).split(", ").length;
                DUE.is("numbers of " + name, numbers, face.get(name).getParameterCount());
                Set<String> due = all(REFUSED, promise(document, name));
                DUE.holds(name + " refuses " + due, all(REFUSED, row.group(3)).equals(due));
            }
        }
        DUE.holds("all calls are told, not " + told, told.equals(face.keySet()));
    }

    private static String promise(String document, String name) {
        Matcher m = Pattern.compile("(?s)## Promise \\d+: " + name + "\n(.*?)\n## ").matcher(document);
        DUE.holds("there is a promise of " + name, m.find());
        return m.group(1);
    }

    private static void constants(String page) {
        Matcher m = Pattern.compile("`(BAD|NO|FULL|NONE)`\\s\\((-\\d)").matcher(page);
        int many = 0;
        while (m.find()) {
            DUE.is(m.group(1), Integer.parseInt(m.group(2)), number(m.group(1)));
            many++;
        }
        DUE.is("constants with their numbers", many, 4);
    }

    private static boolean isFaultless(String text) {
        ShedStages x = new ShedStages();
        Due.tell(x, text);
        return x.fault() == ShedStages.NONE;
    }

    /** The table of items: the ends of each number, and how many there may be. */
    private static void items(String page) {
        Matcher row = Pattern.compile("(?m)^\\| `([blpfsr])([^;`]*);` \\|[^|]*\\|([^|]*)\\|([^|]*)\\|$").matcher(page);
        StringBuilder kinds = new StringBuilder();
        while (row.find()) {
            String kind = row.group(1);
            kinds.append(kind);
            List<String> letters = List.of(row.group(2).split(","));
            ends(kind, letters, row.group(3));
            if (row.group(4).trim().matches("\\d")) {
                int most = Integer.parseInt(row.group(4).trim());
                String item = item(kind, letters, Map.of());
                DUE.holds(most + " of " + item, isFaultless(BUSES + item.repeat(most)));
                DUE.holds("no more than " + most + " of " + item, !isFaultless(BUSES + item.repeat(most + 1)));
            }
        }
        DUE.holds("all items are told, not " + kinds, kinds.toString().equals("blpfsr"));
    }

    private static void ends(String kind, List<String> letters, String numbers) {
        String ahead = kind.equals("b") ? "" : BUSES;
        Matcher m = Pattern.compile("\\b([A-Z]) (\\d+) to (\\d+)").matcher(numbers);
        while (m.find()) {
            int low = Integer.parseInt(m.group(2));
            int high = Integer.parseInt(m.group(3));
            for (int n : new int[] {low - 1, low, high, high + 1}) {
                if (n >= 0) {
                    String item = item(kind, letters, Map.of(m.group(1), n));
                    DUE.holds(item + " is told as the class reads it", isFaultless(ahead + item) == (low <= n && n <= high));
                }
            }
        }
    }

    /** An ITEM in which a number that is not told is one that may stand there. */
    private static String item(String kind, List<String> letters, Map<String, Integer> told) {
        Map<String, Integer> usual = Map.of("B", 1, "I", 0, "J", 1, "C", 1, "P", 1, "H", 1, "L", 1, "S", 1, "M", 4900, "W", 1);
        return letters.stream().map(k -> String.valueOf(told.getOrDefault(k, usual.get(k))))
                .collect(Collectors.joining(",", kind, ";"));
    }

    private static Set<String> testClasses() throws IOException {
        try (Stream<Path> files = Files.list(Path.of("src/test/java"))) {
            return files.map(f -> f.getFileName().toString().replace(".java", "")).collect(Collectors.toCollection(TreeSet::new));
        }
    }

    /** Each class that is named is there, and each that is there is named. */
    private static void names(String page) throws IOException {
        Set<String> there = testClasses();
        for (Class<?> inside : ShedStages.class.getDeclaredClasses()) {
            there.add(inside.getSimpleName());
        }
        Set<String> named = all(Pattern.compile("`([A-Z][a-z]\\w*)`"), page);
        DUE.holds("the classes that are named are those that there are: " + named + there, named.equals(there));
        for (String path : all(Pattern.compile("`((?:\\.\\./|src/)[\\w./]*)`"), page)) {
            DUE.holds(path + " is there", Files.exists(Path.of(path)));
        }
    }

    /** That .ci/run runs what the page says: it is there, and goes over all tests of both folders. */
    private static void tests(String page) throws IOException {
        DUE.holds("the page tells of .ci/run", page.contains("\n    .ci/run\n"));
        DUE.holds(".ci/run can be run", Files.isExecutable(Path.of(".ci/run")));
        String script = Files.readString(Path.of(".ci/run"));
        for (String files : List.of("src/test/java/*Test.java", "../shared/tests/*.java")) {
            DUE.holds(".ci/run goes over " + files, script.contains("for file in " + files + "; do"));
        }
    }
}
