import java.util.Arrays;
import java.util.Random;

/**
 * Seven to twelve tasks, drawn from fixed seeds, against a second model: it takes stations off the END of a line and
 * counts what is left, with the stations that each task may be in as a row of bits. So it can tell many, may, left,
 * shortest and binds of twelve tasks, which ModelTest is too slow for.
 */
public final class WideModelTest {
    static final int NONE = -4;
    static final int STATIONS = 12;
    static int wrong = 0;
    static int answers = 0;

    public static void main(String[] args) {
        int scale = args.length > 0 ? Integer.parseInt(args[0]) : 1;
        for (int run = 0; run < 96 * scale; run++) {
            new Run(70000 + run, 7 + run % 6).play();
        }
        System.out.println(wrong == 0 ? "WideModelTest: " + answers + " answers are as due" : wrong + " answers are not as due");
        if (wrong != 0) {
            System.exit(1);
        }
    }

    static final class Model {
        final int n;
        int cycle;
        final int[] time = new int[12], follow = new int[12], apart = new int[12], joined = new int[12];
        final int[] put = new int[12];
        private boolean[] fits;
        private int[] followed;
        private long[][] known;

        Model(int n) {
            this.n = n;
        }

        int total() {
            return Arrays.stream(time).sum();
        }

        /** Is b behind a, straight or by others? */
        boolean follows(int a, int b) {
            for (int x = 0; x < n; x++) {
                if ((follow[a] >> x & 1) == 1 && (x == b || follows(x, b))) {
                    return true;
                }
            }
            return false;
        }

        private void weigh() {
            fits = new boolean[1 << n];
            followed = new int[1 << n];
            for (int set = 0; set < 1 << n; set++) {
                int sum = 0;
                boolean bears = true;
                for (int x = 0; x < n; x++) {
                    if ((set >> x & 1) == 1) {
                        sum += time[x];
                        followed[set] |= follow[x];
                        bears &= (apart[x] & set) == 0 && (joined[x] & set) == joined[x];
                    }
                }
                fits[set] = bears && sum <= cycle;
            }
        }

        int[] anywhere() {
            int[] row = new int[n];
            Arrays.fill(row, -1);
            return row;
        }

        int[] asPut() {
            int[] row = anywhere();
            for (int t = 0; t < n; t++) {
                row[t] = put[t] == 0 ? -1 : 1 << put[t];
            }
            return row;
        }

        /** Lines of stations 1 to k, each task in one that its row allows; behind weigh(). */
        long lines(int k, int[] allowed, boolean mayBeEmpty) {
            known = new long[k + 1][1 << n];
            for (long[] row : known) {
                Arrays.fill(row, -1);
            }
            return linesOf((1 << n) - 1, k, allowed, mayBeEmpty);
        }

        private long linesOf(int rest, int k, int[] allowed, boolean mayBeEmpty) {
            if (k == 0) {
                return rest == 0 ? 1 : 0;
            }
            if (known[k][rest] >= 0) {
                return known[k][rest];
            }
            int some = 0;
            for (int t = 0; t < n; t++) {
                some |= (rest >> t & 1) == 1 && (allowed[t] >> k & 1) == 1 ? 1 << t : 0;
            }
            long found = mayBeEmpty ? linesOf(rest, k - 1, allowed, true) : 0;
            for (int last = some; last > 0; last = last - 1 & some) {
                // The last station leaves none in earlier ones that is behind one of its own.
                if (fits[last] && (followed[last] & rest & ~last) == 0) {
                    found += linesOf(rest & ~last, k - 1, allowed, mayBeEmpty);
                }
            }
            known[k][rest] = found;
            return found;
        }

        int fewest() {
            weigh();
            return fewestOf(n, anywhere(), false);
        }

        int left() {
            weigh();
            return fewestOf(STATIONS, asPut(), true);
        }

        private int fewestOf(int most, int[] allowed, boolean mayBeEmpty) {
            for (int k = 1; k <= most; k++) {
                if (lines(k, allowed, mayBeEmpty) > 0) {
                    return k;
                }
            }
            return NONE;
        }

        int shortest(int k) {
            int told = cycle;
            int low = 1, high = 721;
            while (low < high) {
                cycle = (low + high) / 2;
                weigh();
                if (lines(k, anywhere(), true) > 0) {
                    high = cycle;
                } else {
                    low = cycle + 1;
                }
            }
            cycle = told;
            return low == 721 ? NONE : low;
        }
    }

    /** One object and its model. */
    static final class Run {
        final Random random;
        final Model m;
        final String text;
        final BalancedLine x = new BalancedLine();

        Run(long seed, int n) {
            random = new Random(seed);
            m = new Model(n);
            text = told();
        }

        int any(int least, int most) {
            return least + random.nextInt(most - least + 1);
        }

        void due(String call, int got, int want) {
            answers++;
            if (got != want) {
                wrong++;
                System.out.println(text + " " + call + " answered " + got + ", due is " + want);
            }
        }

        String told() {
            m.cycle = any(20, 120);
            StringBuilder s = new StringBuilder("c").append(m.cycle).append(';');
            int longest = Math.min(60, m.cycle * any(2, 11) / 10);
            for (int t = 0; t < m.n; t++) {
                m.time[t] = any(1, longest);
                s.append('t').append(m.time[t]).append(';');
            }
            for (int i = any(0, 2 * m.n); i > 0 && s.length() <= 196; i--) {
                s.append(pair(any(0, m.n - 1), any(0, m.n - 1), "pppppppxxj".charAt(any(0, 9))));
            }
            return s.toString();
        }

        /** The item of a pair that can be told, or nothing. */
        String pair(int a, int b, char kind) {
            boolean isPair = ((m.apart[a] | m.joined[a]) >> b & 1) == 1;
            boolean isOrder = (m.follow[a] >> b & 1) == 1 || m.follows(b, a);
            if (a == b || (kind == 'p' ? isOrder : isPair)) {
                return "";
            }
            if (kind == 'p') {
                m.follow[a] |= 1 << b;
            } else {
                int[] rows = kind == 'x' ? m.apart : m.joined;
                rows[a] |= 1 << b;
                rows[b] |= 1 << a;
            }
            return new String(new char[] {kind, (char) ('a' + a), (char) ('a' + b), ';'});
        }

        void play() {
            for (char letter : text.toCharArray()) {
                x.write(letter);
            }
            due("lay()", x.lay(), m.n);
            int fewest = m.fewest();
            due("fewest()", x.fewest(), fewest);
            askBest(fewest);
            askBinds(fewest);
            askByHand();
            askOthers();
            due("adopt()", x.adopt(), fewest);
            due("left()", x.left(), fewest == NONE ? m.left() : fewest);
        }

        void askBest(int fewest) {
            m.weigh();
            due("many()", x.many(), fewest == NONE ? 0 : (int) Math.min(1000000, m.lines(fewest, m.anywhere(), false)));
            int[] best = m.anywhere();
            for (int t = 0; t < m.n; t++) {
                int first = NONE, may = 0;
                for (int k = 1; k <= fewest; k++) {
                    int[] one = m.anywhere();
                    one[t] = 1 << k;
                    may |= m.lines(fewest, one, false) > 0 ? 1 << k : 0;
                    best[t] = 1 << k;
                    first = first == NONE && m.lines(fewest, best, false) > 0 ? k : first;
                }
                best[t] = 1 << Math.max(0, first);
                due("best(" + t + ")", x.best(t), first);
                due("may(" + t + ")", x.may(t), fewest == NONE ? NONE : may);
            }
            due("count(10)", x.count(10), fewest == NONE ? NONE : fewest * m.cycle - m.total());
        }

        void askBinds(int fewest) {
            int found = 0;
            for (int a = 0; a < m.n; a++) {
                for (int b = 0; b < m.n; b++) {
                    if ((m.follow[a] >> b & 1) == 1) {
                        m.follow[a] ^= 1 << b;
                        int without = m.fewest();
                        m.follow[a] ^= 1 << b;
                        if (without != NONE && (fewest == NONE || without < fewest)) {
                            due("binds(" + found + ")", x.binds(found), 100 * a + b);
                            found++;
                        }
                    }
                }
            }
            due("binds(-1)", x.binds(-1), found);
            due("binds(" + found + ")", x.binds(found), NONE);
        }

        void askByHand() {
            for (int i = 0; i < 4; i++) {
                int t = any(0, m.n - 1), k = any(1, any(2, STATIONS));
                if (x.put(t, k) >= 0) {
                    m.put[t] = k;
                }
                due("left() of " + Arrays.toString(m.put), x.left(), m.left());
            }
        }

        void askOthers() {
            int told = m.cycle, k = any(1, STATIONS), c = any(1, 120), t = any(0, m.n - 1), v = any(1, 60);
            due("shortest(" + k + ")", x.shortest(k), m.shortest(k));
            m.cycle = c;
            due("by(" + c + ")", x.by(c), m.fewest());
            m.cycle = told;
            int was = m.time[t];
            m.time[t] = v;
            due("were(" + t + ", " + v + ")", x.were(t, v), m.fewest());
            m.time[t] = was;
        }
    }
}
