import java.util.ArrayDeque;
import java.util.ArrayList;
import java.util.Deque;
import java.util.List;
import java.util.TreeSet;
import java.util.regex.Matcher;
import java.util.regex.Pattern;

/**
 * The document once more, in the plainest way: ISLANDS are objects that hold their BUSES, each
 * change starts from a copy of all, and a text is read by patterns. It is slow on purpose.
 */
final class Model {
    private static final int BAD = -1;
    private static final int NO = -2;
    private static final int FULL = -3;
    private static final int NONE = -4;
    private static final Pattern ITEM = Pattern.compile("([blpfsr])(\\d{1,4}(?:,\\d{1,4})*);");

    private record Link(int one, int other) { }

    private record Plant(int bus, int cap, int pace, int heavy) { }

    private record Feeder(int bus, int load, int stage) { }

    private record Way(int mark, int pause) { }

    private static final class Told {
        int buses;
        final List<Link> links = new ArrayList<>();
        final List<Plant> plants = new ArrayList<>();
        final List<Feeder> feeders = new ArrayList<>();
        final List<Way> ways = new ArrayList<>(List.of(new Way(4980, 4)));
        int fault = NONE;
    }

    private static final class Isle {
        final TreeSet<Integer> buses = new TreeSet<>();
        int f;
        int[] counts = new int[6];
    }

    private static final class State {
        Told told;
        List<Isle> isles = new ArrayList<>();
        List<Boolean> closed = new ArrayList<>();
        List<Integer> gives = new ArrayList<>();
        List<Integer> off = new ArrayList<>();
        List<Integer> marks = new ArrayList<>();
        int ticks;
        int drops;
        int dropLoad;
        int backs;

        State copy() {
            State s = new State();
            s.told = told;
            for (Isle i : isles) {
                Isle j = new Isle();
                j.buses.addAll(i.buses);
                j.f = i.f;
                j.counts = i.counts.clone();
                s.isles.add(j);
            }
            s.closed.addAll(closed);
            s.gives.addAll(gives);
            s.off.addAll(off);
            s.marks.addAll(marks);
            s.ticks = ticks;
            return s;
        }
    }

    private String text = "";
    private State now;
    private final Deque<State> past = new ArrayDeque<>();

    Model() {
        now = start(read("b3;l0,1;l1,2;p0,60,3,6;p2,30,5,3;f0,20,1;f1,25,2;f2,15,0;f1,10,3;"
                + "s4900,2;s4850,2;s4800,1;"));
    }

    /** The answer to a call of that name. */
    int call(String name, int a, int b, int c) {
        return switch (name) {
            case "write" -> write(a);
            case "wipe" -> wipe();
            case "fault" -> read(text).fault;
            case "lay" -> lay();
            case "tick" -> tick(a);
            case "link" -> link(a, b);
            case "feeder" -> feeder(a, b);
            case "begin" -> begin(a);
            case "mark" -> mark(a, b);
            case "undo" -> undo();
            case "island" -> island(a, b);
            case "counted" -> counted(a, b);
            case "at" -> in(a, now.told.buses) ? now.isles.indexOf(isleOf(now, a)) : BAD;
            case "plant" -> in(a, now.gives.size()) ? now.gives.get(a) : BAD;
            case "isOn" -> in(a, now.told.feeders.size()) ? (now.off.contains(a) ? 0 : 1) : BAD;
            case "isClosed" -> in(a, now.closed.size()) ? (now.closed.get(a) ? 1 : 0) : BAD;
            case "dropped" -> a < 0 ? BAD : a < now.off.size() ? now.off.get(now.off.size() - 1 - a) : NONE;
            case "ahead" -> ahead(a, b, c);
            case "least" -> least(a, b, c);
            case "dark" -> dark(a);
            case "count" -> count(a);
            default -> throw new IllegalArgumentException(name);
        };
    }

    private static boolean in(int k, int many) {
        return 0 <= k && k < many;
    }

    // ---- told

    private int write(int letter) {
        if (letter < 32 || letter > 126) {
            return BAD;
        }
        if (text.length() == 200) {
            return FULL;
        }
        text += (char) letter;
        return text.length();
    }

    private int wipe() {
        int length = text.length();
        text = "";
        return length;
    }

    private static Told read(String text) {
        Told told = new Told();
        Matcher m = ITEM.matcher(text);
        int place = 0;
        while (place < text.length()) {
            m.region(place, text.length());
            if (!m.lookingAt() || !take(told, m.group(1).charAt(0), m.group(2).split(","))) {
                told.fault = place;
                return told;
            }
            place = m.end();
        }
        return told;
    }

    private static boolean take(Told t, char kind, String[] words) {
        int[] n = new int[words.length];
        for (int i = 0; i < n.length; i++) {
            n[i] = Integer.parseInt(words[i]);
        }
        if ((kind == 'b') != (t.buses == 0)) {
            return false;
        }
        if (n.length != switch (kind) { case 'b' -> 1; case 'p' -> 4; case 'f' -> 3; default -> 2; }) {
            return false;
        }
        switch (kind) {
            case 'b':
                if (n[0] < 1 || n[0] > 6) {
                    return false;
                }
                t.buses = n[0];
                return true;
            case 'l':
                return t.links.size() < 9 && n[0] < t.buses && n[1] < t.buses && n[0] != n[1]
                        && t.links.add(new Link(n[0], n[1]));
            case 'p':
                return t.plants.size() < 6 && n[0] < t.buses && 1 <= n[1] && n[1] <= 99 && 1 <= n[2]
                        && n[2] <= 9 && 1 <= n[3] && n[3] <= 9
                        && t.plants.add(new Plant(n[0], n[1], n[2], n[3]));
            case 'f':
                return t.feeders.size() < 9 && n[0] < t.buses && 1 <= n[1] && n[1] <= 50 && n[2] <= 5
                        && t.feeders.add(new Feeder(n[0], n[1], n[2]));
            case 's':
                return t.ways.size() < 6 && 4700 <= n[0] && n[0] <= 4999 && 1 <= n[1] && n[1] <= 9
                        && t.ways.add(new Way(n[0], n[1]));
            default:
                if (n[0] < 4900 || n[0] > 5000 || n[1] < 1 || n[1] > 9) {
                    return false;
                }
                t.ways.set(0, new Way(n[0], n[1]));
                return true;
        }
    }

    private static State start(Told told) {
        State s = new State();
        s.told = told;
        told.links.forEach(l -> s.closed.add(true));
        told.plants.forEach(p -> s.gives.add(0));
        told.ways.forEach(w -> s.marks.add(w.mark()));
        for (TreeSet<Integer> buses : parts(s)) {
            Isle isle = new Isle();
            isle.buses.addAll(buses);
            isle.f = 5000;
            s.isles.add(isle);
            int left = load(s, isle);
            for (int p : plants(s, isle)) {
                s.gives.set(p, Math.min(left, told.plants.get(p).cap()));
                left -= s.gives.get(p);
            }
        }
        return s;
    }

    private int lay() {
        Told told = read(text);
        if (told.fault != NONE || told.buses == 0) {
            return NO;
        }
        now = start(told);
        past.clear();
        return now.isles.size();
    }

    // ---- islands

    /** BUSES that CLOSED LINKS join, by walking from each one. */
    private static List<TreeSet<Integer>> parts(State s) {
        List<TreeSet<Integer>> parts = new ArrayList<>();
        TreeSet<Integer> seen = new TreeSet<>();
        for (int b = 0; b < s.told.buses; b++) {
            if (!seen.contains(b)) {
                TreeSet<Integer> part = new TreeSet<>();
                walk(s, b, part);
                seen.addAll(part);
                parts.add(part);
            }
        }
        return parts;
    }

    private static void walk(State s, int b, TreeSet<Integer> part) {
        if (part.add(b)) {
            for (int l = 0; l < s.closed.size(); l++) {
                Link link = s.told.links.get(l);
                if (s.closed.get(l) && (link.one() == b || link.other() == b)) {
                    walk(s, link.one() + link.other() - b, part);
                }
            }
        }
    }

    private static Isle isleOf(State s, int b) {
        return s.isles.stream().filter(i -> i.buses.contains(b)).findFirst().orElseThrow();
    }

    private static List<Integer> plants(State s, Isle isle) {
        List<Integer> list = new ArrayList<>();
        for (int p = 0; p < s.told.plants.size(); p++) {
            if (isle.buses.contains(s.told.plants.get(p).bus())) {
                list.add(p);
            }
        }
        return list;
    }

    private static List<Integer> on(State s, Isle isle) {
        List<Integer> list = new ArrayList<>();
        for (int f = 0; f < s.told.feeders.size(); f++) {
            if (isle.buses.contains(s.told.feeders.get(f).bus()) && !s.off.contains(f)) {
                list.add(f);
            }
        }
        return list;
    }

    private static int load(State s, Isle isle) {
        return on(s, isle).stream().mapToInt(f -> s.told.feeders.get(f).load()).sum();
    }

    private static int given(State s, Isle isle) {
        return plants(s, isle).stream().mapToInt(s.gives::get).sum();
    }

    private static int cap(State s, Isle isle) {
        return plants(s, isle).stream().mapToInt(p -> s.told.plants.get(p).cap()).sum();
    }

    private static int heavy(State s, Isle isle) {
        return plants(s, isle).stream().mapToInt(p -> s.told.plants.get(p).heavy()).sum();
    }

    private static int cut(int a, int by) {
        int whole = Math.abs(a) / by;
        return a < 0 ? -whole : whole;
    }

    private static int aim(State s, Isle isle) {
        return load(s, isle) + cut(5000 - isle.f, 20);
    }

    private int island(int i, int what) {
        if (!in(i, now.isles.size()) || !in(what, 9)) {
            return BAD;
        }
        Isle isle = now.isles.get(i);
        return switch (what) {
            case 0 -> isle.buses.stream().mapToInt(b -> 1 << b).sum();
            case 1 -> isle.f;
            case 2 -> load(now, isle);
            case 3 -> given(now, isle);
            case 4 -> cap(now, isle);
            case 5 -> heavy(now, isle);
            case 6 -> on(now, isle).size();
            case 7 -> (int) now.off.stream()
                    .filter(f -> isle.buses.contains(now.told.feeders.get(f).bus())).count();
            default -> isle.f == 0 ? 0 : aim(now, isle);
        };
    }

    private int counted(int i, int s) {
        return in(i, now.isles.size()) && in(s, now.marks.size()) ? now.isles.get(i).counts[s] : BAD;
    }

    // ---- a tick

    private static void pass(State s) {
        s.ticks++;
        for (Isle isle : s.isles) {
            if (isle.f != 0) {
                pass(s, isle);
            }
        }
    }

    private static void pass(State s, Isle isle) {
        int aim = aim(s, isle);
        // unit by unit: each PLANT as long as it can and GIVEN is not AIM
        for (int p : plants(s, isle)) {
            Plant plant = s.told.plants.get(p);
            for (int step = 0; step < plant.pace(); step++) {
                int given = given(s, isle);
                if (given < aim && s.gives.get(p) < plant.cap()) {
                    s.gives.set(p, s.gives.get(p) + 1);
                } else if (given > aim && s.gives.get(p) > 0) {
                    s.gives.set(p, s.gives.get(p) - 1);
                }
            }
        }
        if (plants(s, isle).isEmpty()) {
            isle.f = 0;
        } else {
            isle.f += cut(10 * (given(s, isle) - load(s, isle)), heavy(s, isle));
            isle.f = isle.f > 5200 ? 5200 : isle.f < 4700 ? 0 : isle.f;
        }
        if (isle.f == 0) {
            on(s, isle).forEach(f -> drop(s, f));
            plants(s, isle).forEach(p -> s.gives.set(p, 0));
            return;
        }
        for (int stage = 1; stage < s.marks.size(); stage++) {
            isle.counts[stage] = isle.f < s.marks.get(stage) ? isle.counts[stage] + 1 : 0;
            if (isle.counts[stage] >= s.told.ways.get(stage).pause()) {
                for (int f : on(s, isle)) {
                    if (s.told.feeders.get(f).stage() == stage) {
                        drop(s, f);
                        isle.counts[stage] = 0;
                    }
                }
            }
        }
        isle.counts[0] = isle.f >= s.marks.get(0) ? isle.counts[0] + 1 : 0;
        if (isle.counts[0] >= s.told.ways.get(0).pause()) {
            back(s, isle);
        }
    }

    private static void drop(State s, int f) {
        s.off.add(f);
        s.drops++;
        s.dropLoad += s.told.feeders.get(f).load();
    }

    private static void back(State s, Isle isle) {
        for (int k = s.off.size() - 1; k >= 0; k--) {
            Feeder feeder = s.told.feeders.get(s.off.get(k));
            if (isle.buses.contains(feeder.bus()) && feeder.load() + load(s, isle) <= cap(s, isle)) {
                s.off.remove(k);
                s.backs++;
                isle.counts[0] = 0;
                return;
            }
        }
    }

    // ---- what is done

    private State change() {
        past.push(now);
        if (past.size() > 4) {
            past.removeLast();
        }
        now = now.copy();
        return now;
    }

    private int tick(int n) {
        if (n < 1 || n > 60) {
            return BAD;
        }
        if (now.ticks + n > 9999) {
            return NO;
        }
        State s = change();
        for (int i = 0; i < n; i++) {
            pass(s);
        }
        return s.drops;
    }

    private int link(int l, int is) {
        if (!in(l, now.closed.size()) || !in(is, 2)) {
            return BAD;
        }
        Isle one = isleOf(now, now.told.links.get(l).one());
        Isle other = isleOf(now, now.told.links.get(l).other());
        boolean can = is == 0 || one == other || one.f == 0 || other.f == 0 || Math.abs(one.f - other.f) <= 20;
        if (now.closed.get(l) == (is == 1) || !can) {
            return NO;
        }
        State s = change();
        s.closed.set(l, is == 1);
        List<Isle> isles = new ArrayList<>();
        for (TreeSet<Integer> part : parts(s)) {
            List<Isle> from = s.isles.stream().filter(i -> part.stream().anyMatch(i.buses::contains)).toList();
            Isle made = from.size() == 1 ? like(from.get(0)) : joined(s, from.get(0), from.get(1));
            made.buses.addAll(part);
            isles.add(made);
        }
        s.isles = isles;
        return isles.size();
    }

    private static Isle like(Isle isle) {
        Isle made = new Isle();
        made.f = isle.f;
        made.counts = isle.counts.clone();
        return made;
    }

    private static Isle joined(State s, Isle a, Isle b) {
        if (a.f != 0 && b.f == 0) {
            return like(a);
        }
        if (a.f == 0 && b.f != 0) {
            return like(b);
        }
        Isle made = new Isle();
        if (a.f != 0) {
            int ha = heavy(s, a);
            int hb = heavy(s, b);
            made.f = ha + hb == 0 ? Math.min(a.f, b.f) : (a.f * ha + b.f * hb) / (ha + hb);
        }
        return made;
    }

    private int feeder(int f, int is) {
        if (!in(f, now.told.feeders.size()) || !in(is, 2)) {
            return BAD;
        }
        int bus = now.told.feeders.get(f).bus();
        boolean isOn = !now.off.contains(f);
        if (isOn == (is == 1) || (is == 1 && isleOf(now, bus).f == 0)) {
            return NO;
        }
        State s = change();
        if (is == 1) {
            s.off.remove(Integer.valueOf(f));
        } else {
            s.off.add(f);
        }
        return load(s, isleOf(s, bus));
    }

    private int begin(int b) {
        if (!in(b, now.told.buses)) {
            return BAD;
        }
        if (isleOf(now, b).f != 0 || plants(now, isleOf(now, b)).isEmpty()) {
            return NO;
        }
        State s = change();
        Isle isle = isleOf(s, b);
        isle.f = 5000;
        isle.counts = new int[6];
        return heavy(s, isle);
    }

    private int mark(int s, int m) {
        if (!in(s, now.marks.size()) || m < (s == 0 ? 4900 : 4700) || m > (s == 0 ? 5000 : 4999)) {
            return BAD;
        }
        int was = now.marks.get(s);
        if (was == m) {
            return NO;
        }
        change().marks.set(s, m);
        return was;
    }

    private int undo() {
        if (past.isEmpty()) {
            return NO;
        }
        now = past.pop();
        return past.size();
    }

    // ---- ahead

    private int ahead(int n, int b, int what) {
        if (n < 1 || n > 60 || !in(b, now.told.buses) || !in(what, 5)) {
            return BAD;
        }
        State s = now.copy();
        int low = Integer.MAX_VALUE;
        for (int i = 0; i < n; i++) {
            pass(s);
            low = Math.min(low, isleOf(s, b).f);
        }
        return new int[] {isleOf(s, b).f, low, s.drops, s.dropLoad, s.backs}[what];
    }

    private int least(int i, int n, int what) {
        if (!in(i, now.isles.size()) || n < 1 || n > 30 || !in(what, 2)) {
            return BAD;
        }
        List<int[]> found = new ArrayList<>();
        for (int set = 0; set < 1 << now.told.feeders.size(); set++) {
            int load = loadIfHolds(i, n, set);
            if (load >= 0) {
                found.add(new int[] {load, Integer.bitCount(set), set});
            }
        }
        found.sort((x, y) -> x[0] != y[0] ? x[0] - y[0] : x[1] != y[1] ? x[1] - y[1] : x[2] - y[2]);
        return found.isEmpty() ? NONE : found.get(0)[what == 0 ? 2 : 0];
    }

    private int loadIfHolds(int i, int n, int set) {
        State s = now.copy();
        Isle isle = s.isles.get(i);
        List<Integer> on = on(s, isle);
        int load = 0;
        for (int f = 0; f < s.told.feeders.size(); f++) {
            if ((set >> f & 1) == 1) {
                if (!on.contains(f)) {
                    return -1;
                }
                load += s.told.feeders.get(f).load();
                s.off.add(f);
            }
        }
        for (int t = 0; t < n && isle.f != 0 && s.drops == 0; t++) {
            pass(s, isle);
        }
        return isle.f == 0 || s.drops > 0 ? -1 : load;
    }

    private int dark(int b) {
        if (!in(b, now.told.buses)) {
            return BAD;
        }
        State s = now.copy();
        if (isleOf(s, b).f == 0) {
            return NO;
        }
        for (int i = 1; i <= 60; i++) {
            pass(s);
            if (isleOf(s, b).f == 0) {
                return i;
            }
        }
        return NONE;
    }

    private int count(int what) {
        return switch (what) {
            case 0 -> now.told.buses;
            case 1 -> now.closed.size();
            case 2 -> now.gives.size();
            case 3 -> now.told.feeders.size();
            case 4 -> now.marks.size() - 1;
            case 5 -> now.isles.size();
            case 6 -> (int) now.isles.stream().filter(i -> i.f == 0).count();
            case 7 -> now.ticks;
            case 8 -> now.told.feeders.size() - now.off.size();
            case 9 -> now.isles.stream().mapToInt(i -> load(now, i)).sum();
            case 10 -> past.size();
            case 11 -> text.length();
            default -> BAD;
        };
    }
}
