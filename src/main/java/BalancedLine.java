import java.util.Arrays;

/** A line of stations in balance; see README.md for its use. */
public final class BalancedLine {
    public static final int BAD = -1, NO = -2, FULL = -3, NONE = -4;

    private static final int MOST_TASKS = 12;
    private static final int MOST_STATIONS = 12;
    private static final int MOST_TIME = 60;
    private static final int MOST_CYCLE = 120;
    private static final int MOST_LETTERS = 200;
    private static final int MOST_UNDONE = 6;
    private static final int MOST_ORDERS = 66;
    private static final int MOST_TOTAL = MOST_TASKS * MOST_TIME;
    private static final int MOST_LINES_TOLD = 1000000;
    private static final int APART = 1;
    private static final int JOINED = 2;
    private static final String FIRST_TEXT =
        "c20;t6;t9;t4;t5;t11;t3;t8;t7;t10;pac;pbd;pcf;pde;pfg;peh;pgi;phi;xab;jcf;";

    private final Script script;
    private final Plan now;
    private final Plan draft;
    private final Past past;
    private final Study study;

    public BalancedLine() {
        script = new Script();
        now = new Plan();
        draft = new Plan();
        past = new Past();
        for (int i = 0; i < FIRST_TEXT.length(); i++) {
            script.add(FIRST_TEXT.charAt(i));
        }
        script.readInto(now);
        script.clear();
        study = new Study(now, draft);
    }

    // ---- told

    public int write(int letter) {
        if (!isWithin(letter, 32, 126)) {
            return BAD;
        }
        return script.add((char) letter) ? script.length : FULL;
    }

    public int wipe() {
        return script.clear();
    }

    public int fault() {
        return script.readInto(draft);
    }

    public int lay() {
        if (script.readInto(draft) != NONE || draft.tasks == 0) {
            return NO;
        }
        now.copy(draft);
        past.clear();
        study.forget();
        return now.tasks;
    }

    public int cycle(int c) {
        if (!isWithin(c, 1, MOST_CYCLE)) {
            return BAD;
        }
        int was = now.pace;
        if (was == c) {
            return NO;
        }
        past.keep(now);
        now.pace = c;
        settle();
        return was;
    }

    public int time(int t, int v) {
        if (!now.has(t) || !isWithin(v, 1, MOST_TIME)) {
            return BAD;
        }
        int was = now.times[t];
        if (was == v) {
            return NO;
        }
        past.keep(now);
        now.times[t] = v;
        settle();
        return was;
    }

    public int order(int a, int b, int is) {
        if (!now.hasPair(a, b) || !isWithin(is, 0, 1)) {
            return BAD;
        }
        boolean wanted = is == 1;
        if (now.isBehind(b, a) == wanted || wanted && now.wouldGoRound(a, b)) {
            return NO;
        }
        past.keep(now);
        now.setOrder(a, b, wanted);
        settle();
        return now.orders();
    }

    public int zone(int a, int b, int how) {
        if (!now.hasPair(a, b) || !isWithin(how, 0, JOINED)) {
            return BAD;
        }
        int was = now.zoneOf(a, b);
        if (was == how) {
            return NO;
        }
        past.keep(now);
        now.setZone(a, b, how);
        settle();
        return was;
    }

    public int undo() {
        if (!past.bringBack(now)) {
            return NO;
        }
        study.forget();
        return past.size;
    }

    public int task(int t, int what) {
        if (!now.has(t)) {
            return BAD;
        }
        switch (what) {
            case 0: return now.times[t];
            case 1: return now.ahead[t];
            case 2: return now.behind(t);
            case 3: return now.allBehind(t);
            case 4: return now.apart[t];
            case 5: return now.joined[t];
            default: return BAD;
        }
    }

    // ---- by hand

    public int put(int t, int station) {
        if (!now.has(t) || !isStation(station)) {
            return BAD;
        }
        if (now.spots[t] == station || now.whyNot(t, station) != 0) {
            return NO;
        }
        past.keep(now);
        now.spots[t] = station;
        return now.timeOf(now.putIn(station));
    }

    public int off(int t) {
        if (!now.has(t)) {
            return BAD;
        }
        int was = now.spots[t];
        if (was == 0) {
            return NO;
        }
        past.keep(now);
        now.spots[t] = 0;
        return was;
    }

    public int why(int t, int station) {
        if (!now.has(t) || !isStation(station)) {
            return BAD;
        }
        return now.whyNot(t, station);
    }

    public int station(int k, int what) {
        if (!isStation(k)) {
            return BAD;
        }
        int held = now.putIn(k);
        switch (what) {
            case 0: return held;
            case 1: return now.timeOf(held);
            case 2: return now.pace - now.timeOf(held);
            default: return BAD;
        }
    }

    public int where(int t) {
        if (!now.has(t)) {
            return BAD;
        }
        return now.spots[t] == 0 ? NONE : now.spots[t];
    }

    public int left() {
        return study.fewestByHand();
    }

    public int adopt() {
        study.solve();
        if (study.stations == NONE) {
            return NONE;
        }
        past.keep(now);
        for (int t = 0; t < now.tasks; t++) {
            now.spots[t] = study.bestSpot(t);
        }
        return study.stations;
    }

    // ---- floors, loads

    public int floor(int which) {
        switch (which) {
            case 0: return now.floorOfAllTimes();
            case 1: return now.floorOfHalves();
            case 2: return now.floorOfChains();
            default: return BAD;
        }
    }

    public int load(int i) {
        return i < -1 ? BAD : study.listedLoad(i, false);
    }

    public int full(int i) {
        return i < -1 ? BAD : study.listedLoad(i, true);
    }

    // ---- the best

    public int fewest() {
        study.solve();
        return study.stations;
    }

    public int best(int t) {
        if (!now.has(t)) {
            return BAD;
        }
        study.solve();
        return study.stations == NONE ? NONE : study.bestSpot(t);
    }

    public int many() {
        study.solve();
        return study.lineCount;
    }

    public int may(int t) {
        if (!now.has(t)) {
            return BAD;
        }
        study.solve();
        return study.stations == NONE ? NONE : study.possibleSpots(t);
    }

    public int shortest(int k) {
        return isStation(k) ? study.shortestCycle(k) : BAD;
    }

    public int by(int c) {
        return isWithin(c, 1, MOST_CYCLE) ? study.fewestByCycle(c) : BAD;
    }

    public int were(int t, int v) {
        if (!now.has(t) || !isWithin(v, 1, MOST_TIME)) {
            return BAD;
        }
        return study.fewestByTime(t, v);
    }

    public int binds(int i) {
        if (i < -1) {
            return BAD;
        }
        study.findBindings();
        return study.listedBinding(i);
    }

    public int count(int what) {
        switch (what) {
            case 0: return now.tasks;
            case 1: return now.pace;
            case 2: return now.orders();
            case 3: return now.pairs(now.apart);
            case 4: return now.pairs(now.joined);
            case 5: return Integer.bitCount(now.allPut());
            case 6: return now.stationsInUse();
            case 7: return now.total();
            case 8: return past.size;
            case 9: return script.length;
            case 10: return idleOfBest();
            case 11: return now.stationsInUse() * now.pace - now.timeOf(now.allPut());
            default: return BAD;
        }
    }

    private int idleOfBest() {
        study.solve();
        return study.stations == NONE ? NONE : study.stations * now.pace - now.total();
    }

    /** What is told has changed: what is put must bear it, and what was found out is stale. */
    private void settle() {
        now.takeOffMisfits();
        study.forget();
    }

    private static boolean isWithin(int number, int least, int most) {
        return number >= least && number <= most;
    }

    private static boolean isStation(int k) {
        return isWithin(k, 1, MOST_STATIONS);
    }

    /** All that is told, and what is put by hand. Sets of tasks are bits. */
    private static final class Plan {
        int tasks;
        int pace;
        final int[] times = new int[MOST_TASKS];
        final int[] ahead = new int[MOST_TASKS];
        final int[] apart = new int[MOST_TASKS];
        final int[] joined = new int[MOST_TASKS];
        /** The station in which a task is put; 0: in none. */
        final int[] spots = new int[MOST_TASKS];

        void clear() {
            tasks = 0;
            pace = 0;
            Arrays.fill(times, 0);
            Arrays.fill(ahead, 0);
            Arrays.fill(apart, 0);
            Arrays.fill(joined, 0);
            Arrays.fill(spots, 0);
        }

        void copy(Plan other) {
            tasks = other.tasks;
            pace = other.pace;
            System.arraycopy(other.times, 0, times, 0, MOST_TASKS);
            System.arraycopy(other.ahead, 0, ahead, 0, MOST_TASKS);
            System.arraycopy(other.apart, 0, apart, 0, MOST_TASKS);
            System.arraycopy(other.joined, 0, joined, 0, MOST_TASKS);
            System.arraycopy(other.spots, 0, spots, 0, MOST_TASKS);
        }

        boolean has(int t) {
            return t >= 0 && t < tasks;
        }

        boolean hasPair(int a, int b) {
            return has(a) && has(b) && a != b;
        }

        boolean addTask(int told) {
            if (tasks >= MOST_TASKS) {
                return false;
            }
            times[tasks] = told;
            tasks++;
            return true;
        }

        boolean isBehind(int t, int other) {
            return (ahead[t] >> other & 1) == 1;
        }

        /** Would orders go round, were b behind a? */
        boolean wouldGoRound(int a, int b) {
            return (allBehind(b) >> a & 1) == 1;
        }

        void setOrder(int a, int b, boolean wanted) {
            ahead[b] = wanted ? ahead[b] | 1 << a : ahead[b] & ~(1 << a);
        }

        int zoneOf(int a, int b) {
            if ((apart[a] >> b & 1) == 1) {
                return APART;
            }
            return (joined[a] >> b & 1) == 1 ? JOINED : 0;
        }

        void setZone(int a, int b, int how) {
            setPair(apart, a, b, how == APART);
            setPair(joined, a, b, how == JOINED);
        }

        private static void setPair(int[] row, int a, int b, boolean wanted) {
            row[a] = wanted ? row[a] | 1 << b : row[a] & ~(1 << b);
            row[b] = wanted ? row[b] | 1 << a : row[b] & ~(1 << a);
        }

        int behind(int t) {
            int found = 0;
            for (int x = 0; x < tasks; x++) {
                if (isBehind(x, t)) {
                    found |= 1 << x;
                }
            }
            return found;
        }

        int allBehind(int t) {
            int found = 0;
            for (int round = 0; round < tasks; round++) {
                for (int x = 0; x < tasks; x++) {
                    if ((ahead[x] & (found | 1 << t)) != 0) {
                        found |= 1 << x;
                    }
                }
            }
            return found;
        }

        int allAhead(int t) {
            int found = ahead[t];
            for (int round = 0; round < tasks; round++) {
                for (int x = 0; x < tasks; x++) {
                    if ((found >> x & 1) == 1) {
                        found |= ahead[x];
                    }
                }
            }
            return found;
        }

        int orders() {
            int found = 0;
            for (int x = 0; x < tasks; x++) {
                found += Integer.bitCount(ahead[x]);
            }
            return found;
        }

        int pairs(int[] row) {
            int ends = 0;
            for (int x = 0; x < tasks; x++) {
                ends += Integer.bitCount(row[x]);
            }
            return ends / 2;
        }

        int timeOf(int set) {
            int sum = 0;
            for (int x = 0; x < tasks; x++) {
                if ((set >> x & 1) == 1) {
                    sum += times[x];
                }
            }
            return sum;
        }

        int everyTask() {
            return (1 << tasks) - 1;
        }

        int total() {
            return timeOf(everyTask());
        }

        int longestTime() {
            int longest = 0;
            for (int x = 0; x < tasks; x++) {
                longest = Math.max(longest, times[x]);
            }
            return longest;
        }

        int putIn(int station) {
            int found = 0;
            for (int x = 0; x < tasks; x++) {
                if (spots[x] == station) {
                    found |= 1 << x;
                }
            }
            return found;
        }

        int allPut() {
            return everyTask() & ~putIn(0);
        }

        int stationsInUse() {
            int used = 0;
            for (int x = 0; x < tasks; x++) {
                if (spots[x] != 0) {
                    used |= 1 << spots[x];
                }
            }
            return Integer.bitCount(used);
        }

        int lastSpot() {
            int last = 0;
            for (int x = 0; x < tasks; x++) {
                last = Math.max(last, spots[x]);
            }
            return last;
        }

        int whyNot(int t, int station) {
            int first = 0;
            int sum = times[t];
            for (int x = 0; x < tasks; x++) {
                if (x != t && spots[x] != 0) {
                    first = firstOf(first, clash(t, station, x));
                    sum += spots[x] == station ? times[x] : 0;
                }
            }
            return sum > pace ? firstOf(first, 3) : first;
        }

        /** Why task t is not to be in a station for the sake of x alone, which is put; 0: no reason. */
        private int clash(int t, int station, int x) {
            if (isBehind(t, x) && spots[x] > station) {
                return 1;
            }
            if (isBehind(x, t) && spots[x] < station) {
                return 2;
            }
            int how = zoneOf(t, x);
            if (how == APART && spots[x] == station) {
                return 4;
            }
            return how == JOINED && spots[x] != station ? 5 : 0;
        }

        private static int firstOf(int one, int other) {
            if (one == 0 || other == 0) {
                return one + other;
            }
            return Math.min(one, other);
        }

        /** One pass is enough: a task taken off gives no other task a reason that it had not before. */
        void takeOffMisfits() {
            for (int x = 0; x < tasks; x++) {
                if (spots[x] != 0 && whyNot(x, spots[x]) != 0) {
                    spots[x] = 0;
                }
            }
        }

        int floorOfAllTimes() {
            return roundedUp(total(), pace);
        }

        int floorOfHalves() {
            int more = 0;
            int just = 0;
            for (int x = 0; x < tasks; x++) {
                more += 2 * times[x] > pace ? 1 : 0;
                just += 2 * times[x] == pace ? 1 : 0;
            }
            return more + roundedUp(just, 2);
        }

        int floorOfChains() {
            int greatest = 0;
            for (int x = 0; x < tasks; x++) {
                greatest = Math.max(greatest, timeOf(allAhead(x) | 1 << x));
            }
            return roundedUp(greatest, pace);
        }

        int highestFloor() {
            return Math.max(floorOfAllTimes(), Math.max(floorOfHalves(), floorOfChains()));
        }

        static int roundedUp(int sum, int divisor) {
            return divisor > 0 ? (sum + divisor - 1) / divisor : 0;
        }
    }

    /** The last changes that can be undone, the oldest first. */
    private static final class Past {
        private final Plan[] kept = new Plan[MOST_UNDONE];
        int size;

        Past() {
            for (int i = 0; i < MOST_UNDONE; i++) {
                kept[i] = new Plan();
            }
        }

        void clear() {
            size = 0;
        }

        void keep(Plan plan) {
            if (size >= MOST_UNDONE) {
                dropOldest();
            }
            kept[size].copy(plan);
            size++;
        }

        private void dropOldest() {
            Plan oldest = kept[0];
            for (int i = 1; i < MOST_UNDONE; i++) {
                kept[i - 1] = kept[i];
            }
            kept[MOST_UNDONE - 1] = oldest;
            size = MOST_UNDONE - 1;
        }

        boolean bringBack(Plan plan) {
            if (size <= 0) {
                return false;
            }
            size--;
            plan.copy(kept[size]);
            return true;
        }
    }

    /** The text, and how it is read. */
    private static final class Script {
        private final char[] letters = new char[MOST_LETTERS];
        int length;

        boolean add(char letter) {
            if (length >= MOST_LETTERS) {
                return false;
            }
            letters[length] = letter;
            length++;
            return true;
        }

        int clear() {
            int was = length;
            length = 0;
            return was;
        }

        /** Lays the text in a plan as far as it is without fault; the place of the fault, or NONE. */
        int readInto(Plan plan) {
            plan.clear();
            int at = 0;
            for (int item = 0; item < MOST_LETTERS && at < length; item++) {
                int end = endOfItem(at);
                if (end >= length || !takeItem(at, end, plan)) {
                    return at;
                }
                at = end + 1;
            }
            return NONE;
        }

        private int endOfItem(int at) {
            int end = at;
            while (end < length && letters[end] != ';') {
                end++;
            }
            return end;
        }

        private boolean takeItem(int at, int end, Plan plan) {
            char kind = letters[at];
            if (at == 0) {
                return kind == 'c' && takeCycle(end, plan);
            }
            if (kind == 't') {
                return takeTask(at, end, plan);
            }
            boolean isPair = kind == 'p' || kind == 'x' || kind == 'j';
            return isPair && end - at == 3 && takePair(at, plan);
        }

        private boolean takeCycle(int end, Plan plan) {
            plan.pace = figures(1, end, 3);
            return isWithin(plan.pace, 1, MOST_CYCLE);
        }

        private boolean takeTask(int at, int end, Plan plan) {
            int told = figures(at + 1, end, 2);
            return isWithin(told, 1, MOST_TIME) && plan.addTask(told);
        }

        /** The number that stands from one place up to another; BAD if it is none of so many figures. */
        private int figures(int from, int end, int most) {
            if (!isWithin(end - from, 1, most)) {
                return BAD;
            }
            int number = 0;
            for (int i = from; i < end; i++) {
                if (!isWithin(letters[i], '0', '9')) {
                    return BAD;
                }
                number = number * 10 + letters[i] - '0';
            }
            return number;
        }

        private boolean takePair(int at, Plan plan) {
            int a = letters[at + 1] - 'a';
            int b = letters[at + 2] - 'a';
            if (!plan.hasPair(a, b)) {
                return false;
            }
            if (letters[at] == 'p') {
                return takeOrder(a, b, plan);
            }
            if (plan.zoneOf(a, b) != 0) {
                return false;
            }
            plan.setZone(a, b, letters[at] == 'x' ? APART : JOINED);
            return true;
        }

        private boolean takeOrder(int a, int b, Plan plan) {
            if (plan.isBehind(b, a) || plan.wouldGoRound(a, b)) {
                return false;
            }
            plan.setOrder(a, b, true);
            return true;
        }
    }

    /** What is found out of the plan as it stands, kept until it changes. */
    private static final class Study {
        private final Plan now;
        private final Plan trial;
        private Lines lines;
        private boolean isMeasured;
        private boolean isSolved;
        private boolean isBound;
        int stations;
        int lineCount;
        private long bestPlaces;
        private final int[] heldAt = new int[MOST_STATIONS + 1];
        private final int[] bindings = new int[MOST_ORDERS];
        private int bindingCount;

        Study(Plan now, Plan trial) {
            this.now = now;
            this.trial = trial;
            lines = new Lines(now.tasks);
        }

        void forget() {
            isMeasured = false;
            isSolved = false;
            isBound = false;
        }

        private void measure(Plan plan) {
            if (!lines.hasRoomFor(plan.tasks)) {
                lines = new Lines(MOST_TASKS);
            }
            lines.measure(plan);
            isMeasured = false;
        }

        private void measureNow() {
            if (!isMeasured) {
                measure(now);
                isMeasured = true;
            }
        }

        void solve() {
            if (isSolved) {
                return;
            }
            measureNow();
            lines.freeAll();
            stations = lines.search(now.highestFloor(), now.tasks);
            lineCount = 0;
            if (stations != NONE) {
                lines.traceBest();
                lineCount = lines.lineCount();
                bestPlaces = lines.bestPlaces();
                lines.copyHeldAt(heldAt);
            }
            isSolved = true;
        }

        int bestSpot(int t) {
            return (int) (bestPlaces >> Lines.placeShift(t)) & 15;
        }

        int possibleSpots(int t) {
            int found = 0;
            for (int k = 1; k <= MOST_STATIONS; k++) {
                if ((heldAt[k] >> t & 1) == 1) {
                    found |= 1 << k;
                }
            }
            return found;
        }

        int fewestByHand() {
            measureNow();
            lines.fix(now);
            return lines.search(Math.max(now.lastSpot(), now.highestFloor()), MOST_STATIONS);
        }

        int listedLoad(int i, boolean fullOnly) {
            measureNow();
            return lines.listedLoad(i, fullOnly);
        }

        int fewestByCycle(int c) {
            trial.copy(now);
            trial.pace = c;
            return fewestOfTrial();
        }

        int fewestByTime(int t, int v) {
            trial.copy(now);
            trial.times[t] = v;
            return fewestOfTrial();
        }

        private int fewestOfTrial() {
            measure(trial);
            lines.freeAll();
            return lines.search(trial.highestFloor(), trial.tasks);
        }

        int shortestCycle(int most) {
            int low = Math.max(now.longestTime(), Plan.roundedUp(now.total(), most));
            int high = now.total();
            trial.copy(now);
            measure(trial);
            lines.freeAll();
            if (!hasLineBy(high, most)) {
                return NONE;
            }
            // The answer is most often near the low end, where failing is cheap: short strides first.
            int stride = 1;
            for (int round = 0; round < MOST_TOTAL && low < high; round++) {
                int guess = Math.min(low + stride - 1, (low + high) / 2);
                if (hasLineBy(guess, most)) {
                    high = guess;
                } else {
                    low = guess + 1;
                    stride *= 2;
                }
            }
            return low;
        }

        private boolean hasLineBy(int c, int most) {
            lines.fit(c);
            return lines.hasLine(most);
        }

        int listedBinding(int i) {
            if (i < 0) {
                return bindingCount;
            }
            return i < bindingCount ? bindings[i] : NONE;
        }

        void findBindings() {
            if (isBound) {
                return;
            }
            solve();
            int most = stations == NONE ? now.tasks : stations - 1;
            bindingCount = 0;
            for (int a = 0; a < now.tasks; a++) {
                for (int b = 0; b < now.tasks; b++) {
                    if (now.isBehind(b, a) && isBinding(a, b, most)) {
                        addBinding(100 * a + b);
                    }
                }
            }
            isBound = true;
        }

        private boolean isBinding(int a, int b, int most) {
            trial.copy(now);
            trial.setOrder(a, b, false);
            if (trial.highestFloor() > most) {
                return false;
            }
            measure(trial);
            lines.freeAll();
            return lines.hasLine(most);
        }

        private void addBinding(int told) {
            if (bindingCount < MOST_ORDERS) {
                bindings[bindingCount] = told;
                bindingCount++;
            }
        }
    }

    /**
     * All lines of a plan at once: rows over all sets of tasks. A line is a way from the empty set to
     * the set of all, a station a step; what is done behind each step holds all that is ahead of it.
     */
    private static final class Lines {
        /** A task that there never is: a set that needs it can be no station. */
        private static final int NEVER = 1 << MOST_TASKS;
        private static final int FAR = 1000;

        private final int[] sums;
        private final int[] wants;
        private final int[] mates;
        private final int[] foes;
        /** What must be done ahead of a station that holds just this set. */
        private final int[] needs;
        /** The earliest station behind which just this set is done. */
        private final int[] levels;
        private final int[] ways;
        private final boolean[] isCovered;
        /** Stations of the tasks, four bits each, task a in the highest: the least is the best. */
        private final long[] places;
        private final long[] spread;
        private final int[] heldAt = new int[MOST_STATIONS + 1];
        /** What must be in a station; nothing in the one behind the last. */
        private final int[] fixedIn = new int[MOST_STATIONS + 2];
        private int fixed;
        private int whole;
        private int pace;
        /** The tasks that are in some set that can be a station. */
        private int usable;

        Lines(int tasks) {
            int size = 1 << Math.max(0, Math.min(tasks, MOST_TASKS));
            sums = new int[size];
            wants = new int[size];
            mates = new int[size];
            foes = new int[size];
            needs = new int[size];
            levels = new int[size];
            ways = new int[size];
            isCovered = new boolean[size];
            places = new long[size];
            spread = new long[size];
        }

        boolean hasRoomFor(int tasks) {
            return 1 << tasks <= sums.length;
        }

        static int placeShift(int t) {
            return 4 * (MOST_TASKS - 1 - t);
        }

        void measure(Plan plan) {
            whole = plan.everyTask();
            for (int t = 0; t < plan.tasks; t++) {
                int bit = 1 << t;
                long place = 1L << placeShift(t);
                for (int rest = 0; rest < bit; rest++) {
                    int set = rest | bit;
                    sums[set] = sums[rest] + plan.times[t];
                    wants[set] = wants[rest] | plan.ahead[t];
                    mates[set] = mates[rest] | plan.joined[t];
                    foes[set] = foes[rest] | plan.apart[t];
                    spread[set] = spread[rest] | place;
                }
            }
            fit(plan.pace);
        }

        /** What can be a station by a cycle. */
        void fit(int c) {
            pace = c;
            usable = 0;
            needs[0] = NEVER;
            for (int set = 1; set <= whole; set++) {
                boolean fits = sums[set] <= c && (mates[set] & ~set) == 0 && (foes[set] & set) == 0;
                needs[set] = fits ? wants[set] & ~set : NEVER;
                usable |= fits ? set : 0;
            }
        }

        void freeAll() {
            fixed = 0;
            Arrays.fill(fixedIn, 0);
        }

        /** Each task that is put must be in its station. */
        void fix(Plan plan) {
            fixed = plan.allPut();
            for (int k = 1; k <= MOST_STATIONS; k++) {
                fixedIn[k] = plan.putIn(k);
            }
        }

        /** The fewest stations, none below the least; NONE if they would be more than the most. */
        int search(int least, int most) {
            int tight = Math.min(least, most);
            reach(tight, 0);
            if (levels[whole] > tight && tight < most) {
                reach(most, 0);
            }
            return levels[whole] <= most ? levels[whole] : NONE;
        }

        boolean hasLine(int most) {
            reach(most, most);
            return levels[whole] <= most;
        }

        /** Finds the levels of all sets that lines of so many stations pass; stops at a line that is enough. */
        private void reach(int most, int enough) {
            Arrays.fill(levels, FAR);
            levels[0] = 0;
            // A task that fits in no station: all ways are dead, and none need be tried.
            int last = usable == whole ? whole : 0;
            for (int done = 0; done < last && levels[whole] > enough; done++) {
                if (canEndWithin(done, most)) {
                    stepFrom(done);
                }
            }
        }

        private boolean canEndWithin(int done, int most) {
            int free = most - levels[done];
            return free > 0 && free * pace >= sums[whole] - sums[done];
        }

        private void stepFrom(int done) {
            int next = levels[done] + 1;
            int due = stationDue(done);
            int dueSet = fixedIn[due];
            int open = whole & ~done & ~(fixed & ~dueSet);
            // Each set falls below the one ahead of it, down to the empty one.
            for (int set = open; set > 0; set = (set - 1) & open) {
                if ((needs[set] & ~done) == 0) {
                    int put = set & dueSet;
                    int station = put == 0 ? next : due;
                    boolean goes = put == 0 ? next < due : put == dueSet;
                    if (goes && station < levels[done | set]) {
                        levels[done | set] = station;
                    }
                }
            }
        }

        /** The first station that must still hold a task that is put; the one behind the last if none must. */
        private int stationDue(int done) {
            int undone = fixed & ~done;
            for (int k = 1; k <= MOST_STATIONS; k++) {
                if ((fixedIn[k] & undone) != 0) {
                    return k;
                }
            }
            return MOST_STATIONS + 1;
        }

        /** Goes back from the end through all best lines, by the levels that a search has left. */
        void traceBest() {
            Arrays.fill(ways, 0);
            Arrays.fill(heldAt, 0);
            ways[whole] = 1;
            places[whole] = 0;
            for (int then = whole; then > 0; then--) {
                if (ways[then] > 0) {
                    traceFrom(then);
                }
            }
        }

        private void traceFrom(int then) {
            int station = levels[then];
            if (!isStation(station)) {
                return;
            }
            // As in stepFrom, each set falls below the one ahead of it.
            for (int set = then; set > 0; set = (set - 1) & then) {
                int done = then & ~set;
                if (levels[done] == station - 1 && (needs[set] & ~done) == 0) {
                    traceStep(done, set, station);
                }
            }
        }

        private void traceStep(int done, int set, int station) {
            int then = done | set;
            long place = places[then] | spread[set] * station;
            if (ways[done] == 0 || place < places[done]) {
                places[done] = place;
            }
            ways[done] = Math.min(MOST_LINES_TOLD, ways[done] + ways[then]);
            heldAt[station] |= set;
        }

        int lineCount() {
            return ways[0];
        }

        long bestPlaces() {
            return places[0];
        }

        void copyHeldAt(int[] row) {
            System.arraycopy(heldAt, 0, row, 0, Math.min(row.length, heldAt.length));
        }

        /** The i-th load, the least first; how many, for an i below 0. */
        int listedLoad(int i, boolean fullOnly) {
            if (fullOnly) {
                findCovered();
            }
            int found = 0;
            for (int set = 1; set <= whole; set++) {
                if (needs[set] == 0 && !(fullOnly && isCovered[set])) {
                    if (found == i) {
                        return set;
                    }
                    found++;
                }
            }
            return i < 0 ? found : NONE;
        }

        /** A set is covered if a load holds it and more. */
        private void findCovered() {
            for (int set = whole; set > 0; set--) {
                isCovered[set] = false;
                for (int bit = 1; bit <= whole; bit <<= 1) {
                    int more = set | bit;
                    if (more != set && (needs[more] == 0 || isCovered[more])) {
                        isCovered[set] = true;
                    }
                }
            }
        }
    }
}
