/**
 * A keeper of the stages by which load is shed. README.md says how it is used;
 * the words in capitals are those of the document.
 */
public final class ShedStages {
    public static final int BAD = -1, NO = -2, FULL = -3, NONE = -4;

    private static final int MOST_LETTERS = 200;
    private static final int MOST_BUSES = 6;
    private static final int MOST_LINKS = 9;
    private static final int MOST_PLANTS = 6;
    private static final int MOST_FEEDERS = 9;
    private static final int MOST_STAGES = 5;
    private static final int MOST_FIGURES = 4;
    private static final int MOST_NUMBERS = 4;

    /** The way BACK has a MARK, a WAIT and a COUNT as STAGES have; it stands ahead of them. */
    private static final int BACK = 0;
    private static final int ROWS = MOST_STAGES + 1;

    private static final int MOST_TICKS = 9999;
    private static final int MOST_TICKS_AT_ONCE = 60;
    private static final int MOST_TICKS_OF_LEAST = 30;
    private static final int MOST_UNDONE = 4;

    private static final int CALM = 5000;
    private static final int HIGHEST = 5200;
    private static final int LOWEST = 4700;
    private static final int PER_AIM = 20;
    private static final int FALL = 10;
    private static final int APART = 20;

    private static final String AT_FIRST =
            "b3;l0,1;l1,2;p0,60,3,6;p2,30,5,3;f0,20,1;f1,25,2;f2,15,0;f1,10,3;s4900,2;s4850,2;s4800,1;";

    private final Letters text;
    private final Reader reader;
    private final Plan draft;
    private final Plan plan;
    private final Grid now;
    private final Grid trial;
    private final Course course;
    private final Course trialCourse;
    private final Past past;

    public ShedStages() {
        text = new Letters();
        reader = new Reader();
        draft = new Plan();
        plan = new Plan();
        now = new Grid(plan);
        trial = new Grid(plan);
        course = new Course(plan, now);
        trialCourse = new Course(plan, trial);
        past = new Past(plan);
        for (int i = 0; i < AT_FIRST.length(); i++) {
            text.add(AT_FIRST.charAt(i));
        }
        reader.read(text, plan);
        text.clear();
        now.layOut();
    }

    // ---- told

    public int write(int letter) {
        if (letter < 32 || letter > 126) {
            return BAD;
        }
        return text.add(letter) ? text.length : FULL;
    }

    public int wipe() {
        int length = text.length;
        text.clear();
        return length;
    }

    public int fault() {
        return reader.read(text, draft);
    }

    public int lay() {
        if (reader.read(text, draft) != NONE || draft.buses == 0) {
            return NO;
        }
        reader.read(text, plan);
        now.layOut();
        past.clear();
        return now.islands();
    }

    // ---- what is done

    public int tick(int n) {
        if (n < 1 || n > MOST_TICKS_AT_ONCE) {
            return BAD;
        }
        if (now.ticks + n > MOST_TICKS) {
            return NO;
        }
        past.keep(now);
        course.forget();
        for (int i = 0; i < n; i++) {
            course.pass();
        }
        return course.drops;
    }

    public int link(int l, int is) {
        if (l < 0 || l >= plan.links || !isSwitch(is)) {
            return BAD;
        }
        boolean close = is == 1;
        if (has(now.closedSet, l) == close || (close && !now.canClose(l))) {
            return NO;
        }
        past.keep(now);
        if (close) {
            now.close(l);
        } else {
            now.open(l);
        }
        return now.islands();
    }

    public int feeder(int f, int is) {
        if (f < 0 || f >= plan.feeders || !isSwitch(is)) {
            return BAD;
        }
        int root = now.roots[plan.feederBus[f]];
        boolean on = is == 1;
        if (has(now.onSet, f) == on || (on && now.isDark(root))) {
            return NO;
        }
        past.keep(now);
        if (on) {
            now.putOn(f);
        } else {
            now.drop(f);
        }
        return now.loadOf(root);
    }

    public int begin(int b) {
        if (!plan.isBus(b)) {
            return BAD;
        }
        int root = now.roots[b];
        if (!now.isDark(root) || now.heavyOf(root) == 0) {
            return NO;
        }
        past.keep(now);
        now.frequency[root] = CALM;
        now.clearCounts(root);
        return now.heavyOf(root);
    }

    public int mark(int s, int m) {
        if (!plan.isRow(s) || !Plan.isMark(s, m)) {
            return BAD;
        }
        int before = now.marks[s];
        if (before == m) {
            return NO;
        }
        past.keep(now);
        now.marks[s] = m;
        return before;
    }

    public int undo() {
        if (past.many == 0) {
            return NO;
        }
        past.giveBack(now);
        return past.many;
    }

    // ---- islands

    public int island(int i, int what) {
        int root = now.rootOf(i);
        if (root < 0) {
            return BAD;
        }
        switch (what) {
            case 0: return now.busBits(root);
            case 1: return now.frequency[root];
            case 2: return now.loadOf(root);
            case 3: return now.givenOf(root);
            case 4: return now.capOf(root);
            case 5: return now.heavyOf(root);
            case 6: return Integer.bitCount(now.feederBits(root, true));
            case 7: return Integer.bitCount(now.feederBits(root, false));
            case 8: return now.isDark(root) ? 0 : now.aimOf(root);
            default: return BAD;
        }
    }

    public int counted(int i, int s) {
        int root = now.rootOf(i);
        if (root < 0 || !plan.isRow(s)) {
            return BAD;
        }
        return now.counts[root * ROWS + s];
    }

    public int at(int b) {
        return plan.isBus(b) ? now.numberOf(now.roots[b]) : BAD;
    }

    public int plant(int p) {
        return p < 0 || p >= plan.plants ? BAD : now.gives[p];
    }

    public int isOn(int f) {
        if (f < 0 || f >= plan.feeders) {
            return BAD;
        }
        return has(now.onSet, f) ? 1 : 0;
    }

    public int isClosed(int l) {
        if (l < 0 || l >= plan.links) {
            return BAD;
        }
        return has(now.closedSet, l) ? 1 : 0;
    }

    public int dropped(int k) {
        if (k < 0) {
            return BAD;
        }
        return k < now.offMany ? now.off[now.offMany - 1 - k] : NONE;
    }

    // ---- ahead

    public int ahead(int n, int b, int what) {
        if (n < 1 || n > MOST_TICKS_AT_ONCE || !plan.isBus(b) || what < 0 || what > 4) {
            return BAD;
        }
        trial.copy(now);
        trialCourse.forget();
        int root = trial.roots[b];
        int lowest = HIGHEST;
        for (int i = 0; i < n; i++) {
            trialCourse.pass();
            lowest = Math.min(lowest, trial.frequency[root]);
        }
        switch (what) {
            case 0: return trial.frequency[root];
            case 1: return lowest;
            case 2: return trialCourse.drops;
            case 3: return trialCourse.dropLoad;
            default: return trialCourse.backs;
        }
    }

    public int least(int i, int n, int what) {
        int root = now.rootOf(i);
        if (root < 0 || n < 1 || n > MOST_TICKS_OF_LEAST || what < 0 || what > 1) {
            return BAD;
        }
        int set = leastSet(root, n);
        if (set < 0) {
            return NONE;
        }
        return what == 0 ? set : plan.loadOfSet(set);
    }

    public int dark(int b) {
        if (!plan.isBus(b)) {
            return BAD;
        }
        int root = now.roots[b];
        if (now.isDark(root)) {
            return NO;
        }
        trial.copy(now);
        for (int i = 1; i <= MOST_TICKS_AT_ONCE; i++) {
            trialCourse.passIsland(root);
            if (trial.isDark(root)) {
                return i;
            }
        }
        return NONE;
    }

    public int count(int what) {
        switch (what) {
            case 0: return plan.buses;
            case 1: return plan.links;
            case 2: return plan.plants;
            case 3: return plan.feeders;
            case 4: return plan.stages;
            case 5: return now.islands();
            case 6: return now.darkIslands();
            case 7: return now.ticks;
            case 8: return plan.feeders - now.offMany;
            case 9: return now.loadOfAll();
            case 10: return past.many;
            case 11: return text.length;
            default: return BAD;
        }
    }

    private static boolean isSwitch(int is) {
        return is == 0 || is == 1;
    }

    private static boolean has(int set, int k) {
        return (set >> k & 1) == 1;
    }

    /** Sets come with rising bits, so of two that are alike otherwise the first stays. */
    private int leastSet(int root, int n) {
        if (now.isDark(root)) {
            return NONE;
        }
        int all = now.feederBits(root, true);
        int best = NONE;
        for (int set = 0; set <= all; set++) {
            boolean isSubset = (set & ~all) == 0;
            if (isSubset && (best < 0 || isLess(set, best)) && holds(root, set, n)) {
                best = set;
            }
        }
        return best;
    }

    private boolean isLess(int set, int other) {
        int byLoad = Integer.compare(plan.loadOfSet(set), plan.loadOfSet(other));
        return byLoad < 0 || (byLoad == 0 && Integer.bitCount(set) < Integer.bitCount(other));
    }

    /** No ISLAND's TICKS touch another one, so it alone is tried. */
    private boolean holds(int root, int set, int n) {
        trial.copy(now);
        for (int f = 0; f < plan.feeders; f++) {
            if (has(set, f)) {
                trial.drop(f);
            }
        }
        trialCourse.forget();
        for (int i = 0; i < n; i++) {
            trialCourse.passIsland(root);
            if (trialCourse.drops > 0 || trial.isDark(root)) {
                return false;
            }
        }
        return true;
    }

    /** THE TEXT. */
    private static final class Letters {
        final int[] letters = new int[MOST_LETTERS];
        int length;

        boolean add(int letter) {
            if (length >= MOST_LETTERS) {
                return false;
            }
            letters[length] = letter;
            length++;
            return true;
        }

        void clear() {
            length = 0;
        }
    }

    /** Reads THE TEXT, ITEM by ITEM, into a plan. */
    private static final class Reader {
        final int[] numbers = new int[MOST_NUMBERS];

        /** FAULT, or NONE. */
        int read(Letters text, Plan plan) {
            plan.clear();
            int start = 0;
            for (int end = 0; end < text.length; end++) {
                if (text.letters[end] == ';') {
                    if (!takeItem(text, start, end, plan)) {
                        return start;
                    }
                    start = end + 1;
                }
            }
            return start < text.length ? start : NONE;
        }

        private boolean takeItem(Letters text, int start, int end, Plan plan) {
            int many = readNumbers(text, start + 1, end);
            switch (text.letters[start]) {
                case 'b': return many == 1 && plan.addBuses(numbers[0]);
                case 'l': return many == 2 && plan.addLink(numbers[0], numbers[1]);
                case 'p': return many == 4 && plan.addPlant(numbers[0], numbers[1], numbers[2], numbers[3]);
                case 'f': return many == 3 && plan.addFeeder(numbers[0], numbers[1], numbers[2]);
                case 's': return many == 2 && plan.addStage(numbers[0], numbers[1]);
                case 'r': return many == 2 && plan.setBack(numbers[0], numbers[1]);
                default: return false;
            }
        }

        /** How many numbers stand there, a comma between two; -1 if that is not all. */
        private int readNumbers(Letters text, int from, int end) {
            int many = 0;
            int figures = 0;
            int value = 0;
            for (int i = from; i <= end; i++) {
                int letter = i < end ? text.letters[i] : ',';
                if (letter == ',') {
                    if (figures == 0 || many >= MOST_NUMBERS) {
                        return -1;
                    }
                    numbers[many] = value;
                    many++;
                    figures = 0;
                    value = 0;
                } else if (letter >= '0' && letter <= '9' && figures < MOST_FIGURES) {
                    value = value * 10 + letter - '0';
                    figures++;
                } else {
                    return -1;
                }
            }
            return many;
        }
    }

    /** What THE TEXT tells of: all that stays as it is while TICKS go by. */
    private static final class Plan {
        int buses;
        int links;
        int plants;
        int feeders;
        int stages;
        final int[] linkFrom = new int[MOST_LINKS];
        final int[] linkTo = new int[MOST_LINKS];
        final int[] plantBus = new int[MOST_PLANTS];
        final int[] cap = new int[MOST_PLANTS];
        final int[] pace = new int[MOST_PLANTS];
        final int[] heavy = new int[MOST_PLANTS];
        final int[] feederBus = new int[MOST_FEEDERS];
        final int[] load = new int[MOST_FEEDERS];
        final int[] stage = new int[MOST_FEEDERS];
        final int[] marksTold = new int[ROWS];
        final int[] waits = new int[ROWS];

        void clear() {
            buses = 0;
            links = 0;
            plants = 0;
            feeders = 0;
            stages = 0;
            marksTold[BACK] = 4980;
            waits[BACK] = 4;
        }

        boolean isBus(int b) {
            return b >= 0 && b < buses;
        }

        /** A row is the way BACK or a STAGE that is told. */
        boolean isRow(int s) {
            return s >= BACK && s <= stages;
        }

        static boolean isMark(int s, int m) {
            return s == BACK ? isFrom(m, 4900, 5000) : isFrom(m, 4700, 4999);
        }

        private static boolean isFrom(int value, int low, int high) {
            return value >= low && value <= high;
        }

        boolean addBuses(int many) {
            if (buses > 0 || !isFrom(many, 1, MOST_BUSES)) {
                return false;
            }
            buses = many;
            return true;
        }

        boolean addLink(int from, int to) {
            if (links >= MOST_LINKS || !isBus(from) || !isBus(to) || from == to) {
                return false;
            }
            linkFrom[links] = from;
            linkTo[links] = to;
            links++;
            return true;
        }

        boolean addPlant(int bus, int itsCap, int itsPace, int itsHeavy) {
            if (plants >= MOST_PLANTS || !isBus(bus) || !isFrom(itsCap, 1, 99)
                    || !isFrom(itsPace, 1, 9) || !isFrom(itsHeavy, 1, 9)) {
                return false;
            }
            plantBus[plants] = bus;
            cap[plants] = itsCap;
            pace[plants] = itsPace;
            heavy[plants] = itsHeavy;
            plants++;
            return true;
        }

        boolean addFeeder(int bus, int itsLoad, int itsStage) {
            if (feeders >= MOST_FEEDERS || !isBus(bus) || !isFrom(itsLoad, 1, 50)
                    || !isFrom(itsStage, 0, MOST_STAGES)) {
                return false;
            }
            feederBus[feeders] = bus;
            load[feeders] = itsLoad;
            stage[feeders] = itsStage;
            feeders++;
            return true;
        }

        boolean addStage(int m, int wait) {
            if (stages >= MOST_STAGES || !setRow(stages + 1, m, wait)) {
                return false;
            }
            stages++;
            return true;
        }

        boolean setBack(int m, int wait) {
            return setRow(BACK, m, wait);
        }

        private boolean setRow(int s, int m, int wait) {
            if (buses == 0 || !isMark(s, m) || !isFrom(wait, 1, 9)) {
                return false;
            }
            marksTold[s] = m;
            waits[s] = wait;
            return true;
        }

        int loadOfSet(int set) {
            int sum = 0;
            for (int f = 0; f < feeders; f++) {
                if (has(set, f)) {
                    sum += load[f];
                }
            }
            return sum;
        }
    }

    /**
     * How things stand. An ISLAND is known by its root, the lowest of its BUSES;
     * only there F and COUNTS of it are kept.
     */
    private static final class Grid {
        final Plan plan;
        /** LINKS that are CLOSED, as bits. */
        int closedSet;
        final int[] roots = new int[MOST_BUSES];
        final int[] rootsBefore = new int[MOST_BUSES];
        final int[] frequency = new int[MOST_BUSES];
        final int[] counts = new int[MOST_BUSES * ROWS];
        final int[] gives = new int[MOST_PLANTS];
        /** FEEDERS that are ON, as bits. */
        int onSet;
        /** FEEDERS that are OFF, the latest dropped last. */
        final int[] off = new int[MOST_FEEDERS];
        int offMany;
        final int[] marks = new int[ROWS];
        int ticks;

        Grid(Plan plan) {
            this.plan = plan;
        }

        void copy(Grid other) {
            System.arraycopy(other.roots, 0, roots, 0, MOST_BUSES);
            System.arraycopy(other.frequency, 0, frequency, 0, MOST_BUSES);
            System.arraycopy(other.counts, 0, counts, 0, MOST_BUSES * ROWS);
            System.arraycopy(other.gives, 0, gives, 0, MOST_PLANTS);
            System.arraycopy(other.off, 0, off, 0, MOST_FEEDERS);
            System.arraycopy(other.marks, 0, marks, 0, ROWS);
            closedSet = other.closedSet;
            onSet = other.onSet;
            offMany = other.offMany;
            ticks = other.ticks;
        }

        /** LAID. */
        void layOut() {
            closedSet = (1 << plan.links) - 1;
            onSet = (1 << plan.feeders) - 1;
            offMany = 0;
            ticks = 0;
            System.arraycopy(plan.marksTold, 0, marks, 0, ROWS);
            findRoots();
            for (int b = 0; b < MOST_BUSES; b++) {
                frequency[b] = CALM;
                clearCounts(b);
            }
            giveLoad();
        }

        private void giveLoad() {
            for (int p = 0; p < MOST_PLANTS; p++) {
                gives[p] = 0;
            }
            for (int p = 0; p < plan.plants; p++) {
                int root = roots[plan.plantBus[p]];
                gives[p] = Math.min(plan.cap[p], loadOf(root) - givenOf(root));
            }
        }

        /** The lowest number goes over one LINK a round at least, so as many rounds as BUSES reach all. */
        private void findRoots() {
            for (int b = 0; b < MOST_BUSES; b++) {
                roots[b] = b;
            }
            for (int round = 0; round < plan.buses; round++) {
                for (int l = 0; l < plan.links; l++) {
                    if (has(closedSet, l)) {
                        int from = plan.linkFrom[l];
                        int to = plan.linkTo[l];
                        int low = Math.min(roots[from], roots[to]);
                        roots[from] = low;
                        roots[to] = low;
                    }
                }
            }
        }

        void clearCounts(int root) {
            for (int s = 0; s < ROWS; s++) {
                counts[root * ROWS + s] = 0;
            }
        }

        private void copyCounts(int from, int to) {
            for (int s = 0; s < ROWS; s++) {
                counts[to * ROWS + s] = counts[from * ROWS + s];
            }
        }

        boolean isDark(int root) {
            return frequency[root] == 0;
        }

        int islands() {
            int many = 0;
            for (int b = 0; b < plan.buses; b++) {
                if (roots[b] == b) {
                    many++;
                }
            }
            return many;
        }

        int darkIslands() {
            int many = 0;
            for (int b = 0; b < plan.buses; b++) {
                if (roots[b] == b && isDark(b)) {
                    many++;
                }
            }
            return many;
        }

        /** The root of the ISLAND of that number; -1: there is none. */
        int rootOf(int number) {
            int many = 0;
            for (int b = 0; b < plan.buses; b++) {
                if (roots[b] == b) {
                    if (many == number) {
                        return b;
                    }
                    many++;
                }
            }
            return -1;
        }

        int numberOf(int root) {
            int many = 0;
            for (int b = 0; b < root; b++) {
                if (roots[b] == b) {
                    many++;
                }
            }
            return many;
        }

        int busBits(int root) {
            int bits = 0;
            for (int b = 0; b < plan.buses; b++) {
                if (roots[b] == root) {
                    bits |= 1 << b;
                }
            }
            return bits;
        }

        /** FEEDERS of an ISLAND that are ON, or those that are OFF, as bits. */
        int feederBits(int root, boolean thatAreOn) {
            int bits = 0;
            for (int f = 0; f < plan.feeders; f++) {
                if (has(onSet, f) == thatAreOn && roots[plan.feederBus[f]] == root) {
                    bits |= 1 << f;
                }
            }
            return bits;
        }

        /** A sum of its own: by feederBits, calls would go nine deep. */
        int loadOf(int root) {
            int sum = 0;
            for (int f = 0; f < plan.feeders; f++) {
                if (has(onSet, f) && roots[plan.feederBus[f]] == root) {
                    sum += plan.load[f];
                }
            }
            return sum;
        }

        int loadOfAll() {
            return plan.loadOfSet(onSet);
        }

        int givenOf(int root) {
            return sumOfPlants(gives, root);
        }

        int capOf(int root) {
            return sumOfPlants(plan.cap, root);
        }

        /** 0 if there is no PLANT, and only then. */
        int heavyOf(int root) {
            return sumOfPlants(plan.heavy, root);
        }

        private int sumOfPlants(int[] row, int root) {
            int sum = 0;
            for (int p = 0; p < plan.plants; p++) {
                if (roots[plan.plantBus[p]] == root) {
                    sum += row[p];
                }
            }
            return sum;
        }

        int aimOf(int root) {
            return loadOf(root) + (CALM - frequency[root]) / PER_AIM;
        }

        void drop(int f) {
            if (has(onSet, f) && offMany < MOST_FEEDERS) {
                onSet &= ~(1 << f);
                off[offMany] = f;
                offMany++;
            }
        }

        void putOn(int f) {
            onSet |= 1 << f;
            int kept = 0;
            for (int k = 0; k < offMany; k++) {
                if (off[k] != f) {
                    off[kept] = off[k];
                    kept++;
                }
            }
            offMany = kept;
        }

        void open(int l) {
            closedSet &= ~(1 << l);
            System.arraycopy(roots, 0, rootsBefore, 0, MOST_BUSES);
            findRoots();
            for (int b = 0; b < plan.buses; b++) {
                if (roots[b] == b && rootsBefore[b] != b) {
                    frequency[b] = frequency[rootsBefore[b]];
                    copyCounts(rootsBefore[b], b);
                }
            }
        }

        boolean canClose(int l) {
            int one = roots[plan.linkFrom[l]];
            int other = roots[plan.linkTo[l]];
            return one == other || isDark(one) || isDark(other)
                    || Math.abs(frequency[one] - frequency[other]) <= APART;
        }

        void close(int l) {
            int one = roots[plan.linkFrom[l]];
            int other = roots[plan.linkTo[l]];
            if (one != other) {
                join(Math.min(one, other), Math.max(one, other));
            }
            closedSet |= 1 << l;
            findRoots();
        }

        /** What both have becomes that of the lower root, which the joined ISLAND is known by. */
        private void join(int low, int high) {
            if (isDark(low)) {
                if (isDark(high)) {
                    clearCounts(low);
                } else {
                    copyCounts(high, low);
                }
                frequency[low] = frequency[high];
            } else if (!isDark(high)) {
                clearCounts(low);
                frequency[low] = joinedFrequency(low, high);
            }
        }

        private int joinedFrequency(int low, int high) {
            int lowHeavy = heavyOf(low);
            int highHeavy = heavyOf(high);
            int both = lowHeavy + highHeavy;
            if (both == 0) {
                return Math.min(frequency[low], frequency[high]);
            }
            return (frequency[low] * lowHeavy + frequency[high] * highHeavy) / both;
        }
    }

    /** How TICKS go by on a grid, and what happened in them. */
    private static final class Course {
        final Plan plan;
        final Grid grid;
        int drops;
        int dropLoad;
        int backs;

        Course(Plan plan, Grid grid) {
            this.plan = plan;
            this.grid = grid;
        }

        void forget() {
            drops = 0;
            dropLoad = 0;
            backs = 0;
        }

        /** A TICK. */
        void pass() {
            grid.ticks++;
            for (int b = 0; b < plan.buses; b++) {
                if (grid.roots[b] == b) {
                    passIsland(b);
                }
            }
        }

        void passIsland(int root) {
            if (grid.isDark(root)) {
                return;
            }
            follow(root);
            int heavy = grid.heavyOf(root);
            if (heavy == 0) {
                darken(root);
                return;
            }
            int over = grid.givenOf(root) - grid.loadOf(root);
            int frequency = Math.min(HIGHEST, grid.frequency[root] + FALL * over / heavy);
            if (frequency < LOWEST) {
                darken(root);
                return;
            }
            grid.frequency[root] = frequency;
            for (int s = 1; s <= plan.stages; s++) {
                passStage(root, s);
            }
            passBack(root);
        }

        private void follow(int root) {
            int lacking = grid.aimOf(root) - grid.givenOf(root);
            for (int p = 0; p < plan.plants; p++) {
                if (grid.roots[plan.plantBus[p]] == root) {
                    int gives = grid.gives[p];
                    int most = Math.min(plan.pace[p], plan.cap[p] - gives);
                    int least = -Math.min(plan.pace[p], gives);
                    int step = Math.max(least, Math.min(most, lacking));
                    grid.gives[p] = gives + step;
                    lacking -= step;
                }
            }
        }

        private void darken(int root) {
            grid.frequency[root] = 0;
            dropSet(grid.feederBits(root, true));
            for (int p = 0; p < plan.plants; p++) {
                if (grid.roots[plan.plantBus[p]] == root) {
                    grid.gives[p] = 0;
                }
            }
        }

        private void dropSet(int set) {
            for (int f = 0; f < plan.feeders; f++) {
                if (has(set, f)) {
                    grid.drop(f);
                    drops++;
                    dropLoad += plan.load[f];
                }
            }
        }

        private void passStage(int root, int s) {
            int place = root * ROWS + s;
            grid.counts[place] = grid.frequency[root] < grid.marks[s] ? grid.counts[place] + 1 : 0;
            if (grid.counts[place] >= plan.waits[s]) {
                int set = onOfStage(root, s);
                if (set != 0) {
                    dropSet(set);
                    grid.counts[place] = 0;
                }
            }
        }

        private int onOfStage(int root, int s) {
            int set = grid.feederBits(root, true);
            for (int f = 0; f < plan.feeders; f++) {
                if (plan.stage[f] != s) {
                    set &= ~(1 << f);
                }
            }
            return set;
        }

        private void passBack(int root) {
            int place = root * ROWS + BACK;
            grid.counts[place] = grid.frequency[root] >= grid.marks[BACK] ? grid.counts[place] + 1 : 0;
            if (grid.counts[place] >= plan.waits[BACK]) {
                int f = nextBack(root);
                if (f >= 0) {
                    grid.putOn(f);
                    backs++;
                    grid.counts[place] = 0;
                }
            }
        }

        /** The FEEDER that comes BACK; -1: there is none. */
        private int nextBack(int root) {
            int room = grid.capOf(root) - grid.loadOf(root);
            for (int k = grid.offMany - 1; k >= 0; k--) {
                int f = grid.off[k];
                if (grid.roots[plan.feederBus[f]] == root && plan.load[f] <= room) {
                    return f;
                }
            }
            return -1;
        }
    }

    /** How things stood ahead of the latest changes. */
    private static final class Past {
        final Grid[] kept = new Grid[MOST_UNDONE];
        int next;
        int many;

        Past(Plan plan) {
            for (int i = 0; i < MOST_UNDONE; i++) {
                kept[i] = new Grid(plan);
            }
        }

        void clear() {
            many = 0;
        }

        void keep(Grid grid) {
            kept[next].copy(grid);
            next = (next + 1) % MOST_UNDONE;
            many = Math.min(many + 1, MOST_UNDONE);
        }

        void giveBack(Grid grid) {
            next = (next + MOST_UNDONE - 1) % MOST_UNDONE;
            many--;
            grid.copy(kept[next]);
        }
    }
}
