import java.lang.management.ManagementFactory;

/** All calls of a run live in one room: an object makes its rows once, and its calls make no more. */
public final class RoomTest {
    static final int CALLS = 512;
    /** Rows for nine tasks, then for twelve: some 210 kB. */
    static final long MOST_OF_A_LIFE = 300_000;
    static final long MOST_OF_A_NEW_ONE = 60_000;
    static int wrong = 0;

    interface Call {
        int on(BalancedLine x, int i);
    }

    public static void main(String[] args) {
        bytes(BalancedLine::new);
        check("a new object", bytes(BalancedLine::new), MOST_OF_A_NEW_ONE);
        String free = "c30;t1;t2;t3;t4;t5;t6;t7;t8;t9;t10;t11;t12;";
        Call change = (x, i) -> x.cycle(30 + i % 2);
        Call[] asked = {(x, i) -> x.fewest(), (x, i) -> x.left(), (x, i) -> x.binds(-1), (x, i) -> x.shortest(1 + i % 12),
            (x, i) -> x.by(1 + i % 120), (x, i) -> x.were(i % 12, 1 + i % 60), (x, i) -> x.load(i), (x, i) -> x.full(i),
            (x, i) -> x.many(), (x, i) -> x.may(i % 12), (x, i) -> x.adopt(), (x, i) -> x.undo(), (x, i) -> x.lay(),
            (x, i) -> x.fault(), (x, i) -> x.count(i % 12), (x, i) -> x.floor(i % 3), (x, i) -> x.put(i % 12, 1 + i % 12)};
        for (int kind = 0; kind < asked.length; kind++) {
            Call one = asked[kind];
            check("a life of call " + kind, bytes(() -> live(free, change, one)), MOST_OF_A_LIFE);
            check("a life of call " + kind + " in a row", bytes(() -> live(free + row(), change, one)), MOST_OF_A_LIFE);
        }
        System.out.println(wrong == 0 ? "RoomTest: all have room" : wrong + " take too much room");
        if (wrong != 0) {
            System.exit(1);
        }
    }

    static String row() {
        return "pab;pbc;pcd;pde;pef;pfg;pgh;phi;pij;pjk;pkl;";
    }

    static void live(String text, Call change, Call asked) {
        BalancedLine x = new BalancedLine();
        for (int i = 0; i < text.length(); i++) {
            x.write(text.charAt(i));
        }
        x.lay();
        for (int i = 0; i < (CALLS - text.length()) / 2; i++) {
            change.on(x, i);
            asked.on(x, i);
        }
    }

    static long bytes(Runnable run) {
        com.sun.management.ThreadMXBean threads = (com.sun.management.ThreadMXBean) ManagementFactory.getThreadMXBean();
        long self = Thread.currentThread().getId();
        long before = threads.getThreadAllocatedBytes(self);
        run.run();
        return threads.getThreadAllocatedBytes(self) - before;
    }

    static void check(String what, long got, long most) {
        if (got > most) {
            wrong++;
            System.out.println(what + " takes " + got + " bytes, " + most + " at most are due");
        }
    }
}
