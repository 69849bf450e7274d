import java.lang.reflect.Method;
import java.util.ArrayList;
import java.util.Arrays;
import java.util.Comparator;
import java.util.List;
import java.util.function.Supplier;

/**
 * What the edge tests share. A test is a static method "promiseNN_sentence"; it stands for one sentence of the
 * document that names an edge. No object here is used for more than the 512 calls that the document speaks of.
 */
final class Edges {
    static final int BAD = -1, NO = -2, FULL = -3, NONE = -4;
    /** Numbers that are far off, and such as become small ones if their high bits or their sign are lost. */
    static final int[] FAR = {Integer.MIN_VALUE, Integer.MIN_VALUE + 1, -(1 << 16), -256, -32, -13, -5,
        256, 257, 1 << 16, (1 << 16) + 1, 1 << 30, Integer.MAX_VALUE - 1, Integer.MAX_VALUE};

    private static String test = "";
    private static int wrong = 0;
    private static int answers = 0;

    interface Call {
        int on(BalancedLine x);
    }

    /** Runs all tests of a class, those of the promises first to last, each of which must have one. */
    static void run(Class<?> tests, int first, int last) throws ReflectiveOperationException {
        Method[] all = Arrays.stream(tests.getDeclaredMethods())
            .filter(m -> m.getName().matches("promise\\d\\d_\\w+"))
            .sorted(Comparator.comparing(Method::getName))
            .toArray(Method[]::new);
        for (int promise = first; promise <= last; promise++) {
            String mark = String.format("promise%02d_", promise);
            test = mark;
            check(Arrays.stream(all).anyMatch(m -> m.getName().startsWith(mark)), "has a test");
        }
        for (Method m : all) {
            test = m.getName();
            m.invoke(null);
        }
        String name = tests.getSimpleName();
        System.out.println(wrong == 0 ? name + ": " + all.length + " tests, " + answers + " answers are as due"
            : name + ": " + wrong + " answers are not as due");
        if (wrong != 0) {
            System.exit(1);
        }
    }

    static void check(boolean holds, String what) {
        answers++;
        if (!holds) {
            wrong++;
            System.out.println(test + ": is not so: " + what);
        }
    }

    static void due(String what, int got, int want) {
        answers++;
        if (got != want) {
            wrong++;
            System.out.println(test + ": " + what + " answered " + got + ", due is " + want);
        }
    }

    static void type(BalancedLine x, String text) {
        for (char letter : text.toCharArray()) {
            x.write(letter);
        }
    }

    static BalancedLine typed(String text) {
        BalancedLine x = new BalancedLine();
        type(x, text);
        due("length of " + text, x.count(9), text.length());
        return x;
    }

    static BalancedLine laid(String text) {
        BalancedLine x = typed(text);
        check(x.lay() > 0, text + " is laid");
        return x;
    }

    /** A cycle and so many tasks of one time. */
    static String alike(int cycle, int tasks, int time) {
        return "c" + cycle + ";" + ("t" + time + ";").repeat(tasks);
    }

    /** Each task but the first is behind the one ahead of it. */
    static String chain(int tasks) {
        StringBuilder text = new StringBuilder();
        for (int t = 1; t < tasks; t++) {
            text.append('p').append((char) ('a' + t - 1)).append((char) ('a' + t)).append(';');
        }
        return text.toString();
    }

    /**
     * Five tasks behind more changes than can be undone, some put by hand, another text written: an object on
     * which any change that ought not to be can be seen.
     */
    static BalancedLine busy() {
        BalancedLine x = laid("c11;t4;t5;t3;t6;t2;pab;xad;jce;");
        x.wipe();
        type(x, "c7;t3;t4;pba;");
        x.put(4, 12);
        x.cycle(12);
        x.put(0, 1);
        x.put(3, 2);
        x.time(4, 3);
        x.order(0, 3, 1);
        x.zone(1, 4, 1);
        x.put(1, 1);
        due("changes of the busy one", x.count(8), 6);
        due("put in the busy one", x.count(5), 4);
        return x;
    }

    /** All that is told and put, as far as it can be read. */
    static List<Integer> told(BalancedLine x) {
        List<Integer> all = new ArrayList<>();
        for (int what = 0; what <= 11; what++) {
            if (what != 10) {
                all.add(x.count(what));
            }
        }
        int tasks = x.count(0);
        for (int t = 0; t < tasks; t++) {
            for (int what : new int[] {0, 1, 4, 5}) {
                all.add(x.task(t, what));
            }
            all.add(x.where(t));
        }
        return all;
    }

    /** All that is told and put, what is found out of it, all that can be undone, and what the text lays; uses it up. */
    static List<List<Integer>> allOf(BalancedLine x) {
        List<List<Integer>> all = new ArrayList<>();
        all.add(told(x));
        all.add(List.of(x.fewest(), x.many(), x.left(), x.load(-1), x.full(0), x.binds(-1), x.fault()));
        int more = 0;
        for (int i = 0; i < 7 && more != NO; i++) {
            more = x.undo();
            all.add(List.of(more));
            all.add(told(x));
        }
        all.add(List.of(x.lay()));
        all.add(told(x));
        return all;
    }

    static void same(String what, BalancedLine one, BalancedLine other) {
        List<List<Integer>> got = allOf(one), want = allOf(other);
        due(what + " leaves as many parts", got.size(), want.size());
        for (int i = 0; i < Math.min(got.size(), want.size()); i++) {
            check(got.get(i).equals(want.get(i)), what + " leaves all as it was (part " + i + "): " + got.get(i) + " is due as " + want.get(i));
        }
    }

    /** The call has its answer, and an object on which it was made is no other than one on which it was not. */
    static void leavesAll(String what, Supplier<BalancedLine> make, Call call, int want) {
        BalancedLine one = make.get();
        due(what, call.on(one), want);
        same(what, one, make.get());
    }

    /** The busy one answers so, and is no other behind it. */
    static void refused(String what, Call call, int want) {
        leavesAll(what, Edges::busy, call, want);
    }

    /** What is asked is told of all as it stands then: behind each change, undone, and laid anew, as if never asked ahead. */
    static void toldAsItStands(Call asked) {
        String text = "c10;t5;t6;t4;t3;t2;pab;pbc;xad;jde;", other = "c12;t6;t6;t5;t1;pab;pcb;xcd;";
        Call[] changes = {x -> x.cycle(9), x -> x.cycle(16), x -> x.cycle(3), x -> x.time(1, 4), x -> x.time(2, 11),
            x -> x.order(0, 1, 0), x -> x.order(1, 2, 0), x -> x.order(4, 0, 1), x -> x.zone(0, 3, 0), x -> x.zone(0, 4, 1),
            x -> x.zone(3, 4, 0), x -> x.zone(0, 2, 2)};
        int asLaid = asked.on(laid(text));
        int otherwise = 0;
        for (Call change : changes) {
            BalancedLine x = laid(text);
            due("ahead of the change", asked.on(x), asLaid);
            check(change.on(x) >= 0, "it is a change");
            BalancedLine fresh = laid(text);
            change.on(fresh);
            int want = asked.on(fresh);
            otherwise += want == asLaid ? 0 : 1;
            due("behind the change", asked.on(x), want);
            due("once more", asked.on(x), want);
            x.undo();
            due("undone", asked.on(x), asLaid);
            x.wipe();
            type(x, other);
            check(x.lay() == 4, "it is laid");
            due("laid anew", asked.on(x), asked.on(laid(other)));
        }
        check(otherwise > 0, "some change makes it another answer");
    }

    private Edges() {
    }
}
