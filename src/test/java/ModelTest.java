import java.util.ArrayDeque;
import java.util.ArrayList;
import java.util.Arrays;
import java.util.Deque;
import java.util.List;
import java.util.Random;
import java.util.TreeSet;

/**
 * Runs of calls, drawn from fixed seeds, against a slow model that tries out every line task by task
 * and shares no thought with the program but the document.
 */
public final class ModelTest {
    static final int BAD = -1, NO = -2, FULL = -3, NONE = -4;
    static int wrong = 0;
    static long calls = 0;

    public static void main(String[] args) {
        int scale = args.length > 0 ? Integer.parseInt(args[0]) : 1;
        for (int run = 0; run < 400 * scale; run++) {
            new Run(1000 + run, 1 + run % 6, 150).play();
        }
        for (int run = 0; run < 12 * scale; run++) {
            new Run(900000 + run, 7 + run % 6, 40).play();
        }
        System.out.println(wrong == 0 ? "ModelTest: " + calls + " answers are as due" : wrong + " answers are not as due");
        if (wrong != 0) {
            System.exit(1);
        }
    }

    /** The model. */
    static final class Model {
        int n, cycle;
        int[] time = new int[12], put = new int[12];
        boolean[][] order = new boolean[12][12];
        int[][] zone = new int[12][12];
        StringBuilder text = new StringBuilder();
        Deque<Model> past = new ArrayDeque<>();

        Model copy() {
            Model m = new Model();
            m.n = n;
            m.cycle = cycle;
            m.time = time.clone();
            m.put = put.clone();
            for (int i = 0; i < 12; i++) {
                m.order[i] = order[i].clone();
                m.zone[i] = zone[i].clone();
            }
            return m;
        }

        void take(Model m) {
            n = m.n;
            cycle = m.cycle;
            time = m.time.clone();
            put = m.put.clone();
            for (int i = 0; i < 12; i++) {
                order[i] = m.order[i].clone();
                zone[i] = m.zone[i].clone();
            }
        }

        void remember() {
            past.addLast(copy());
            if (past.size() > 6) {
                past.removeFirst();
            }
        }

        void settle() {
            boolean again = true;
            while (again) {
                again = false;
                for (int t = 0; t < n && !again; t++) {
                    if (put[t] != 0 && why(t, put[t]) != 0) {
                        put[t] = 0;
                        again = true;
                    }
                }
            }
        }

        boolean task(int t) {
            return 0 <= t && t < n;
        }

        boolean behind(int t, int of) { // t is behind 'of', straight or by others
            for (int x = 0; x < n; x++) {
                if (order[x][t] && (x == of || behind(x, of))) {
                    return true;
                }
            }
            return false;
        }

        int why(int t, int s) {
            for (int x = 0; x < n; x++) {
                if (x != t && order[x][t] && put[x] > s) {
                    return 1;
                }
            }
            for (int x = 0; x < n; x++) {
                if (x != t && order[t][x] && put[x] != 0 && put[x] < s) {
                    return 2;
                }
            }
            int sum = time[t];
            for (int x = 0; x < n; x++) {
                sum += x != t && put[x] == s ? time[x] : 0;
            }
            if (sum > cycle) {
                return 3;
            }
            for (int x = 0; x < n; x++) {
                if (x != t && zone[t][x] == 1 && put[x] == s) {
                    return 4;
                }
            }
            for (int x = 0; x < n; x++) {
                if (x != t && zone[t][x] == 2 && put[x] != 0 && put[x] != s) {
                    return 5;
                }
            }
            return 0;
        }

        /** The fault of the text, and what it tells in 'into'. */
        int fault(Model into) {
            String rest = text.toString();
            int at = 0;
            boolean first = true;
            while (!rest.isEmpty()) {
                int semi = rest.indexOf(';');
                if (semi < 0) {
                    return at;
                }
                String item = rest.substring(0, semi);
                if (first != item.startsWith("c") || !into.item(item)) {
                    return at;
                }
                first = false;
                at += semi + 1;
                rest = rest.substring(semi + 1);
            }
            return NONE;
        }

        boolean item(String item) {
            if (item.matches("c[0-9]{1,3}")) {
                cycle = Integer.parseInt(item.substring(1));
                return cycle >= 1 && cycle <= 120;
            }
            if (item.matches("t[0-9]{1,2}")) {
                int v = Integer.parseInt(item.substring(1));
                if (v < 1 || v > 60 || n == 12) {
                    return false;
                }
                time[n++] = v;
                return true;
            }
            if (!item.matches("[pxj][a-l][a-l]")) {
                return false;
            }
            int x = item.charAt(1) - 'a', y = item.charAt(2) - 'a';
            if (x >= n || y >= n || x == y) {
                return false;
            }
            if (item.charAt(0) == 'p') {
                if (order[x][y] || behind(x, y)) {
                    return false;
                }
                order[x][y] = true;
                return true;
            }
            if (zone[x][y] != 0) {
                return false;
            }
            zone[x][y] = zone[y][x] = item.charAt(0) == 'x' ? 1 : 2;
            return true;
        }

        /** Can task t be in station s, as far as tasks below t stand? */
        boolean goes(int[] s, int t) {
            int sum = 0;
            for (int x = 0; x <= t; x++) {
                sum += s[x] == s[t] ? time[x] : 0;
            }
            if (sum > cycle) {
                return false;
            }
            for (int x = 0; x < t; x++) {
                if (order[x][t] && s[x] > s[t] || order[t][x] && s[t] > s[x]
                    || zone[x][t] == 1 && s[x] == s[t] || zone[x][t] == 2 && s[x] != s[t]) {
                    return false;
                }
            }
            return true;
        }

        /** All lines of just k stations, in the order of the best first; stops behind 'most' of them. */
        void lines(int k, int t, int[] s, Lines found, int most) {
            if (found.count >= most) {
                return;
            }
            if (t == n) {
                int used = 0;
                for (int x = 0; x < n; x++) {
                    used |= 1 << s[x];
                }
                if (used == (2 << k) - 2) {
                    found.add(s, n);
                }
                return;
            }
            for (s[t] = 1; s[t] <= k; s[t]++) {
                if (goes(s, t)) {
                    lines(k, t + 1, s, found, most);
                }
            }
        }

        Lines best(int most) {
            for (int k = 1; k <= n; k++) {
                Lines found = new Lines();
                lines(k, 0, new int[13], found, most);
                if (found.count > 0) {
                    found.k = k;
                    return found;
                }
            }
            return null;
        }

        int fewest() {
            Lines found = best(1);
            return found == null ? NONE : found.k;
        }

        boolean canBeLeft(int k, int t, int[] s) {
            if (t == n) {
                return true;
            }
            for (int station = 1; station <= k; station++) {
                if (put[t] == 0 || put[t] == station) {
                    s[t] = station;
                    if (goes(s, t) && canBeLeft(k, t + 1, s)) {
                        return true;
                    }
                }
            }
            return false;
        }

        int left() {
            for (int k = 1; k <= 12; k++) {
                if (canBeLeft(k, 0, new int[13])) {
                    return k;
                }
            }
            return NONE;
        }

        int shortest(int k) {
            int total = total();
            for (int c = 1; c <= total; c++) {
                Model m = copy();
                m.cycle = c;
                for (int j = 1; j <= Math.min(k, n); j++) {
                    Lines found = new Lines();
                    m.lines(j, 0, new int[13], found, 1);
                    if (found.count > 0) {
                        return c;
                    }
                }
            }
            return NONE;
        }

        int total() {
            return Arrays.stream(time, 0, n).sum();
        }

        List<Integer> loads(boolean full) {
            List<Integer> all = new ArrayList<>();
            for (int set = 1; set < 1 << n; set++) {
                if (isLoad(set)) {
                    all.add(set);
                }
            }
            if (!full) {
                return all;
            }
            List<Integer> some = new ArrayList<>();
            for (int set : all) {
                boolean part = false;
                for (int other : all) {
                    part |= other != set && (other & set) == set;
                }
                if (!part) {
                    some.add(set);
                }
            }
            return some;
        }

        boolean isLoad(int set) {
            int sum = 0;
            for (int x = 0; x < n; x++) {
                if ((set >> x & 1) == 0) {
                    continue;
                }
                sum += time[x];
                for (int y = 0; y < n; y++) {
                    boolean in = (set >> y & 1) == 1;
                    if (order[y][x] && !in || zone[x][y] == 1 && in || zone[x][y] == 2 && !in) {
                        return false;
                    }
                }
            }
            return sum <= cycle;
        }

        List<Integer> binds() {
            List<Integer> found = new ArrayList<>();
            int now = fewest();
            for (int a = 0; a < n; a++) {
                for (int b = 0; b < n; b++) {
                    if (order[a][b]) {
                        Model m = copy();
                        m.order[a][b] = false;
                        int then = m.fewest();
                        if (then != NONE && (now == NONE || then < now)) {
                            found.add(100 * a + b);
                        }
                    }
                }
            }
            return found;
        }

        int listed(List<Integer> list, int i) {
            if (i < -1) {
                return BAD;
            }
            if (i == -1) {
                return list.size();
            }
            return i < list.size() ? list.get(i) : NONE;
        }

        int floor(int which) {
            if (which == 0) {
                return (int) Math.ceil((double) total() / cycle);
            }
            if (which == 1) {
                int twice = 0;
                for (int x = 0; x < n; x++) {
                    twice += Integer.compare(2 * time[x], cycle) + 1;
                }
                return (twice + 1) / 2;
            }
            int most = 0;
            for (int x = 0; x < n; x++) {
                int sum = time[x];
                for (int y = 0; y < n; y++) {
                    sum += behind(x, y) ? time[y] : 0;
                }
                most = Math.max(most, (int) Math.ceil((double) sum / cycle));
            }
            return most;
        }
    }

    static final class Lines {
        int k, count;
        int[] first;
        int[] may = new int[12];

        void add(int[] s, int n) {
            if (count == 0) {
                first = s.clone();
            }
            count++;
            for (int x = 0; x < n; x++) {
                may[x] |= 1 << s[x];
            }
        }
    }

    /** One run: the same calls on the program and on the model. */
    static final class Run {
        final long seed;
        final int most;
        final int length;
        final Random random;
        final BalancedLine x = new BalancedLine();
        final Model m = new Model();

        Run(long seed, int most, int length) {
            this.seed = seed;
            this.most = most;
            this.length = length;
            random = new Random(seed);
            m.text.append("c20;t6;t9;t4;t5;t11;t3;t8;t7;t10;pac;pbd;pcf;pde;pfg;peh;pgi;phi;xab;jcf;");
            m.fault(m);
            m.text.setLength(0);
        }

        void due(String call, int got, int want) {
            calls++;
            if (got != want) {
                wrong++;
                System.out.println("seed " + seed + ": " + call + " answered " + got + ", due is " + want);
            }
        }

        int any(int least, int most) {
            return least + random.nextInt(most - least + 1);
        }

        int anyTask() {
            return random.nextInt(25) == 0 ? any(-2, 13) : any(0, m.n - 1);
        }

        void play() {
            for (int i = 0; i < 5; i++) {
                told();
                byHand();
                asked();
            }
            writeText(goodText());
            lay();
            for (int i = 0; i < length; i++) {
                int kind = any(0, 99);
                if (kind < 30) {
                    told();
                } else if (kind < 65) {
                    byHand();
                } else if (kind < 98) {
                    asked();
                } else {
                    newText();
                }
                state();
            }
        }

        void newText() {
            String text = goodText();
            if (random.nextBoolean()) {
                int at = any(0, text.length() - 1);
                String junk = "ctpxj;abcl0126 ~";
                text = text.substring(0, at) + junk.charAt(any(0, 15)) + text.substring(Math.min(text.length(), at + any(0, 1)));
            }
            writeText(text);
            lay();
        }

        String goodText() {
            StringBuilder s = new StringBuilder();
            int n = any(1, most);
            s.append('c').append(any(1, 40)).append(';');
            for (int i = 0; i < n; i++) {
                s.append('t').append(any(0, 9) == 0 ? any(1, 60) : any(1, 15)).append(';');
            }
            for (int i = any(0, n + 2); i > 0; i--) {
                char a = (char) ('a' + any(0, n - 1)), b = (char) ('a' + any(0, n - 1));
                if (a != b) {
                    Model probe = new Model();
                    Model into = new Model();
                    probe.text.append(s).append("pppxj".charAt(any(0, 4))).append(a).append(b).append(';');
                    if (any(0, 15) == 0 || probe.fault(into) == NONE) {
                        s = probe.text;
                    }
                }
            }
            return s.toString();
        }

        void writeText(String text) {
            due("wipe()", x.wipe(), m.text.length());
            m.text.setLength(0);
            for (char letter : text.toCharArray()) {
                int want = FULL;
                if (m.text.length() < 200) {
                    m.text.append(letter);
                    want = m.text.length();
                }
                due("write(" + letter + ")", x.write(letter), want);
            }
            due("fault() of " + m.text, x.fault(), m.fault(new Model()));
        }

        void lay() {
            Model into = new Model();
            int want = NO;
            if (m.fault(into) == NONE && into.n > 0) {
                m.take(into);
                m.past.clear();
                want = m.n;
            }
            due("lay() of " + m.text, x.lay(), want);
        }

        void told() {
            int a = anyTask(), b = anyTask();
            switch (any(0, 4)) {
                case 0: {
                    int c = any(0, 20) == 0 ? any(-1, 122) : any(8, 40);
                    int want = c < 1 || c > 120 ? BAD : c == m.cycle ? NO : m.cycle;
                    if (want >= 0) {
                        m.remember();
                        m.cycle = c;
                        m.settle();
                    }
                    due("cycle(" + c + ")", x.cycle(c), want);
                    break;
                }
                case 1: {
                    int v = any(0, 20) == 0 ? any(-1, 62) : any(1, 15);
                    int want = !m.task(a) || v < 1 || v > 60 ? BAD : m.time[a] == v ? NO : m.time[a];
                    if (want >= 0) {
                        m.remember();
                        m.time[a] = v;
                        m.settle();
                    }
                    due("time(" + a + ", " + v + ")", x.time(a, v), want);
                    break;
                }
                case 2: {
                    int is = any(0, 20) == 0 ? any(-1, 2) : any(0, 1);
                    int want = 0;
                    if (!m.task(a) || !m.task(b) || a == b || is < 0 || is > 1) {
                        want = BAD;
                    } else if (m.order[a][b] == (is == 1) || is == 1 && m.behind(a, b)) {
                        want = NO;
                    } else {
                        m.remember();
                        m.order[a][b] = is == 1;
                        m.settle();
                        for (boolean[] row : m.order) {
                            for (boolean one : row) {
                                want += one ? 1 : 0;
                            }
                        }
                    }
                    due("order(" + a + ", " + b + ", " + is + ")", x.order(a, b, is), want);
                    break;
                }
                case 3: {
                    int how = any(0, 20) == 0 ? any(-1, 3) : any(0, 2);
                    int want;
                    if (!m.task(a) || !m.task(b) || a == b || how < 0 || how > 2) {
                        want = BAD;
                    } else if (m.zone[a][b] == how) {
                        want = NO;
                    } else {
                        m.remember();
                        want = m.zone[a][b];
                        m.zone[a][b] = m.zone[b][a] = how;
                        m.settle();
                    }
                    due("zone(" + a + ", " + b + ", " + how + ")", x.zone(a, b, how), want);
                    break;
                }
                default: {
                    int want = NO;
                    if (!m.past.isEmpty()) {
                        m.take(m.past.removeLast());
                        want = m.past.size();
                    }
                    due("undo()", x.undo(), want);
                }
            }
        }

        void byHand() {
            int t = anyTask();
            int s = any(0, 20) == 0 ? any(-1, 14) : any(0, 9) == 0 ? any(1, 12) : any(1, 4);
            boolean bad = !m.task(t) || s < 1 || s > 12;
            int kind = any(0, 9);
            due("why(" + t + ", " + s + ")", x.why(t, s), bad ? BAD : m.why(t, s));
            if (kind < 7) {
                int want = bad ? BAD : m.put[t] == s || m.why(t, s) != 0 ? NO : 0;
                if (want == 0) {
                    m.remember();
                    m.put[t] = s;
                    for (int i = 0; i < m.n; i++) {
                        want += m.put[i] == s ? m.time[i] : 0;
                    }
                }
                due("put(" + t + ", " + s + ")", x.put(t, s), want);
            } else if (kind < 8) {
                int want = !m.task(t) ? BAD : m.put[t] == 0 ? NO : m.put[t];
                if (want > 0) {
                    m.remember();
                    m.put[t] = 0;
                }
                due("off(" + t + ")", x.off(t), want);
            } else if (kind < 9) {
                Lines best = m.best(1);
                if (best != null) {
                    m.remember();
                    System.arraycopy(best.first, 0, m.put, 0, m.n);
                }
                due("adopt()", x.adopt(), best == null ? NONE : best.k);
            }
            if (m.n <= 8) {
                due("left()", x.left(), m.left());
            }
        }

        void asked() {
            boolean small = m.n <= 6;
            switch (any(0, small ? 5 : 3)) {
                case 0:
                    askBest(small);
                    break;
                case 1: {
                    int t = anyTask(), v = any(0, 20) == 0 ? any(-1, 62) : any(1, 20);
                    int want = BAD;
                    if (m.task(t) && v >= 1 && v <= 60) {
                        Model then = m.copy();
                        then.time[t] = v;
                        want = then.fewest();
                    }
                    due("were(" + t + ", " + v + ")", x.were(t, v), want);
                    break;
                }
                case 2: {
                    int c = any(0, 20) == 0 ? any(-1, 122) : any(3, 60);
                    Model then = m.copy();
                    then.cycle = c;
                    due("by(" + c + ")", x.by(c), c < 1 || c > 120 ? BAD : then.fewest());
                    break;
                }
                case 3:
                    askLists();
                    break;
                case 4:
                    int k = any(0, 20) == 0 ? any(-1, 14) : any(1, 5);
                    due("shortest(" + k + ")", x.shortest(k), k < 1 || k > 12 ? BAD : m.shortest(k));
                    break;
                default:
                    List<Integer> binds = m.binds();
                    for (int i = -2; i <= binds.size(); i++) {
                        due("binds(" + i + ")", x.binds(i), m.listed(binds, i));
                    }
            }
        }

        void askBest(boolean small) {
            Lines best = m.best(small ? 1000000 : 1);
            due("fewest()", x.fewest(), best == null ? NONE : best.k);
            for (int t = -1; t <= m.n; t++) {
                due("best(" + t + ")", x.best(t), !m.task(t) ? BAD : best == null ? NONE : best.first[t]);
                if (small) {
                    due("may(" + t + ")", x.may(t), !m.task(t) ? BAD : best == null ? NONE : best.may[t]);
                }
            }
            if (small) {
                due("many()", x.many(), best == null ? 0 : best.count);
            }
            due("count(10)", x.count(10), best == null ? NONE : best.k * m.cycle - m.total());
        }

        void askLists() {
            List<Integer> loads = m.loads(false), full = m.loads(true);
            for (int i = -2; i <= Math.min(loads.size(), 70); i++) {
                due("load(" + i + ")", x.load(i), m.listed(loads, i));
            }
            for (int i = -2; i <= Math.min(full.size(), 70); i++) {
                due("full(" + i + ")", x.full(i), m.listed(full, i));
            }
        }

        /** All that can be read without a search. */
        void state() {
            int orders = 0, apart = 0, joined = 0, put = 0, idle = 0;
            TreeSet<Integer> used = new TreeSet<>();
            for (int t = -1; t <= m.n; t++) {
                int[] want = new int[6];
                for (int y = 0; m.task(t) && y < m.n; y++) {
                    want[1] |= m.order[y][t] ? 1 << y : 0;
                    want[2] |= m.order[t][y] ? 1 << y : 0;
                    want[3] |= m.behind(y, t) ? 1 << y : 0;
                    want[4] |= m.zone[t][y] == 1 ? 1 << y : 0;
                    want[5] |= m.zone[t][y] == 2 ? 1 << y : 0;
                }
                want[0] = m.task(t) ? m.time[t] : 0;
                for (int what = -1; what <= 6; what++) {
                    boolean bad = !m.task(t) || what < 0 || what > 5;
                    due("task(" + t + ", " + what + ")", x.task(t, what), bad ? BAD : want[what]);
                }
                due("where(" + t + ")", x.where(t), !m.task(t) ? BAD : m.put[t] == 0 ? NONE : m.put[t]);
                orders += Integer.bitCount(want[1]);
                apart += Integer.bitCount(want[4]);
                joined += Integer.bitCount(want[5]);
                if (m.task(t) && m.put[t] != 0) {
                    put++;
                    idle += used.add(m.put[t]) ? m.cycle : 0;
                    idle -= m.time[t];
                }
            }
            for (int k = 0; k <= 13; k++) {
                int bits = 0, sum = 0;
                for (int t = 0; t < m.n; t++) {
                    bits |= m.put[t] == k ? 1 << t : 0;
                    sum += m.put[t] == k ? m.time[t] : 0;
                }
                boolean bad = k < 1 || k > 12;
                due("station(" + k + ", 0)", x.station(k, 0), bad ? BAD : bits);
                due("station(" + k + ", 1)", x.station(k, 1), bad ? BAD : sum);
                due("station(" + k + ", 2)", x.station(k, 2), bad ? BAD : m.cycle - sum);
                due("station(" + k + ", 3)", x.station(k, 3), BAD);
                due("station(" + k + ", -1)", x.station(k, -1), BAD);
            }
            for (int which = -1; which <= 3; which++) {
                due("floor(" + which + ")", x.floor(which), which < 0 || which > 2 ? BAD : m.floor(which));
            }
            int[] want = {BAD, m.n, m.cycle, orders, apart / 2, joined / 2, put, used.size(), m.total(), m.past.size(), m.text.length()};
            for (int what = -1; what <= 9; what++) {
                due("count(" + what + ")", x.count(what), want[what + 1]);
            }
            due("count(11)", x.count(11), idle);
            due("count(12)", x.count(12), BAD);
        }
    }
}
