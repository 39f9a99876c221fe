import java.lang.reflect.Constructor;
import java.lang.reflect.Field;
import java.lang.reflect.Method;
import java.lang.reflect.Modifier;
import java.nio.file.Files;
import java.nio.file.Path;
import java.util.Map;
import java.util.Set;
import java.util.TreeMap;
import java.util.TreeSet;
import java.util.regex.Matcher;
import java.util.regex.Pattern;

/** The face of the class, and those rules of LANGUAGE.md that its source shows. */
final class LanguageTest {
    private static final Due DUE = new Due("LanguageTest");
    private static final Set<String> FACE = Set.of("write(int)", "wipe()", "fault()", "lay()", "tick(int)",
            "link(int,int)", "feeder(int,int)", "begin(int)", "mark(int,int)", "undo()", "island(int,int)",
            "counted(int,int)", "at(int)", "plant(int)", "isOn(int)", "isClosed(int)", "dropped(int)",
            "ahead(int,int,int)", "least(int,int,int)", "dark(int)", "count(int)");
    private static final String[] RULED_OUT = {"throw", "throws", "try", "catch", "finally", "synchronized", "assert",
        "import", "package", "volatile", "native", "protected", "Object", "Random", "Thread", "Exception"};
    /** Its indent, its name, its body. */
    private static final Pattern METHOD =
            Pattern.compile("(?m)^( {4}| {8})(?:\\w+ )*[\\w\\[\\]]+ (\\w+)\\(.*\\) \\{$((?s).*?)^\\1\\}$");

    public static void main(String[] args) throws Exception {
        constants();
        face();
        Set<String> names = new TreeSet<>();
        FACE.forEach(call -> names.add(call.substring(0, call.indexOf('('))));
        for (Class<?> inside : ShedStages.class.getDeclaredClasses()) {
            classInside(inside, names);
        }
        DUE.holds("at most twelve classes", ShedStages.class.getDeclaredClasses().length < 12);
        source(Files.readString(Path.of("src/main/java/ShedStages.java")));
        DUE.end();
    }

    private static void constants() {
        DUE.is("BAD", ShedStages.BAD, -1);
        DUE.is("NO", ShedStages.NO, -2);
        DUE.is("FULL", ShedStages.FULL, -3);
        DUE.is("NONE", ShedStages.NONE, -4);
    }

    private static void face() {
        Class<?> main = ShedStages.class;
        DUE.holds("public and final", Modifier.isPublic(main.getModifiers()) && Modifier.isFinal(main.getModifiers()));
        Set<String> calls = new TreeSet<>();
        Set<String> hidden = new TreeSet<>();
        for (Method m : main.getDeclaredMethods()) {
            if (Modifier.isPublic(m.getModifiers())) {
                calls.add(m.getName() + m.toString().replaceAll(".*(\\(.*\\)).*", "$1"));
                DUE.holds(m + " answers int", m.getReturnType() == int.class && !Modifier.isStatic(m.getModifiers()));
            } else {
                DUE.holds(m + " is private", Modifier.isPrivate(m.getModifiers()));
                hidden.add(m.getName());
            }
            DUE.holds(m + " takes at most seven", m.getParameterCount() <= 7);
        }
        DUE.holds("the methods of the face: " + calls, calls.equals(FACE));
        for (String call : FACE) {
            DUE.holds("no private " + call, !hidden.contains(call.substring(0, call.indexOf('('))));
        }
        Constructor<?>[] made = main.getDeclaredConstructors();
        DUE.holds("one public constructor without arguments", made.length == 1
                && Modifier.isPublic(made[0].getModifiers()) && made[0].getParameterCount() == 0);
        Set<String> shown = new TreeSet<>();
        for (Field f : main.getDeclaredFields()) {
            if (!Modifier.isPrivate(f.getModifiers())) {
                shown.add(f.getName());
            }
        }
        DUE.holds("the constants of the face: " + shown, shown.equals(Set.of("BAD", "NO", "FULL", "NONE")));
        fields(main);
    }

    private static void fields(Class<?> of) {
        int own = 0;
        for (Field f : of.getDeclaredFields()) {
            if (Modifier.isStatic(f.getModifiers())) {
                DUE.holds(f + " is final", Modifier.isFinal(f.getModifiers()));
            } else {
                own++;
            }
        }
        DUE.holds(of + " has at most twenty fields", own <= 20);
    }

    private static void classInside(Class<?> inside, Set<String> names) {
        DUE.holds(inside + " is static", Modifier.isStatic(inside.getModifiers()));
        DUE.holds(inside + " is not public", !Modifier.isPublic(inside.getModifiers()));
        for (Method m : inside.getDeclaredMethods()) {
            DUE.holds(m + " has a name of its own", !names.contains(m.getName()));
            DUE.holds(m + " takes at most seven", m.getParameterCount() <= 7);
        }
        fields(inside);
    }

    private static void source(String whole) {
        String code = whole.replaceAll("(?s)/\\*.*?\\*/", "").replaceAll("//[^\n]*", "").replaceAll("\"[^\"\n]*\"", "\"\"");
        for (String word : RULED_OUT) {
            DUE.holds("no " + word, !Pattern.compile("\\b" + word + "\\b").matcher(code).find());
        }
        DUE.holds("no lambda", !code.contains("->"));
        DUE.holds("no method reference", !code.contains("::"));
        DUE.holds("no Exact", !code.contains("Exact("));
        Matcher system = Pattern.compile("\\bSystem\\.(\\w+)").matcher(code);
        while (system.find()) {
            DUE.holds("System." + system.group(1), system.group(1).equals("arraycopy"));
        }
        shortMethods(code);
        callsEightDeep(code);
        madeInConstructors(code);
    }

    /** Methods begin with a type and a name; constructors, which alone may make objects, with a name only. */
    private static void madeInConstructors(String code) {
        int methods = 0;
        Matcher method = METHOD.matcher(code);
        while (method.find()) {
            if (!method.group(2).equals("ShedStages")) {
                methods++;
                DUE.holds(method.group(2) + " makes no object", !Pattern.compile("\\bnew\\b").matcher(method.group(3)).find());
            }
        }
        DUE.holds("methods are found", methods > FACE.size());
    }

    /** Methods are known by their names alone: of two that bear the same name, the calls of both count. */
    private static void callsEightDeep(String code) {
        Map<String, Set<String>> calls = new TreeMap<>();
        Matcher method = METHOD.matcher(code);
        while (method.find()) {
            Set<String> called = calls.computeIfAbsent(method.group(2), name -> new TreeSet<>());
            Matcher call = Pattern.compile("\\b(\\w+)\\(").matcher(method.group(3));
            while (call.find()) {
                called.add(call.group(1));
            }
        }
        for (String name : calls.keySet()) {
            int deep = depth(calls, name, 1);
            DUE.holds(name + " calls at most eight deep, not " + deep, deep <= 8);
        }
    }

    private static int depth(Map<String, Set<String>> calls, String name, int level) {
        int deepest = level;
        if (calls.containsKey(name) && level < 20) {
            for (String called : calls.get(name)) {
                if (calls.containsKey(called)) {
                    deepest = Math.max(deepest, depth(calls, called, level + 1));
                }
            }
        }
        return deepest;
    }

    /** A method's braces are those one step inside a class: two steps in the file, three inside another class. */
    private static void shortMethods(String code) {
        String[] lines = code.split("\n");
        int start = -1;
        String indent = "";
        for (int i = 0; i < lines.length; i++) {
            Matcher head = Pattern.compile("^( {4}| {8})[a-zA-Z].*\\(.*\\) \\{$").matcher(lines[i]);
            if (start < 0 && head.find()) {
                start = i;
                indent = head.group(1);
            } else if (start >= 0 && lines[i].equals(indent + "}")) {
                DUE.holds("at most sixty lines from " + lines[start].trim(), i - start <= 60);
                start = -1;
            }
        }
    }
}
