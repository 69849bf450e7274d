/** For each promise of the document: ordinary calls, its edges, and wrong numbers. */
public final class PromiseTest {
    static final int BAD = -1, NO = -2, FULL = -3, NONE = -4;
    static int wrong = 0;
    static int calls = 0;

    public static void main(String[] args) {
        newObject();
        write();
        wipe();
        fault();
        lay();
        cycle();
        time();
        order();
        zone();
        undo();
        task();
        put();
        off();
        why();
        station();
        where();
        left();
        adopt();
        floor();
        load();
        full();
        fewestAndBest();
        many();
        may();
        shortest();
        by();
        were();
        binds();
        count();
        takenOff();
        twelveTasks();
        textOfTwoHundred();
        laidSmaller();
        wholeRangeOfInt();
        System.out.println(wrong == 0 ? "PromiseTest: " + calls + " answers are as due" : wrong + " answers are not as due");
        if (wrong != 0) {
            System.exit(1);
        }
    }

    static void due(String what, int got, int want) {
        calls++;
        if (got != want) {
            wrong++;
            System.out.println(what + ": answered " + got + ", due is " + want);
        }
    }

    static void type(BalancedLine x, String text) {
        x.wipe();
        for (char letter : text.toCharArray()) {
            x.write(letter);
        }
    }

    static BalancedLine laid(String text) {
        BalancedLine x = new BalancedLine();
        type(x, text);
        if (x.lay() < 1) {
            wrong++;
            System.out.println("is not laid: " + text);
        }
        return x;
    }

    static void newObject() {
        due("BAD", BalancedLine.BAD, BAD);
        due("NO", BalancedLine.NO, NO);
        due("FULL", BalancedLine.FULL, FULL);
        due("NONE", BalancedLine.NONE, NONE);
        BalancedLine x = new BalancedLine();
        int[] times = {6, 9, 4, 5, 11, 3, 8, 7, 10};
        int[] ahead = {0, 0, 1, 2, 8, 4, 32, 16, 64 + 128};
        for (int t = 0; t < 9; t++) {
            due("1 time of " + t, x.task(t, 0), times[t]);
            due("1 ahead of " + t, x.task(t, 1), ahead[t]);
            due("1 apart from " + t, x.task(t, 4), t == 0 ? 2 : t == 1 ? 1 : 0);
            due("1 joined with " + t, x.task(t, 5), t == 2 ? 32 : t == 5 ? 4 : 0);
            due("1 put " + t, x.where(t), NONE);
        }
        int[] counts = {9, 20, 8, 1, 1, 0, 0, 63, 0, 0, 17, 0};
        for (int what = 0; what < 12; what++) {
            due("1 count " + what, x.count(what), counts[what]);
        }
        due("1 the text is empty", x.wipe(), 0);
        due("1 nothing to undo", x.undo(), NO);
        due("1 nothing to lay", x.lay(), NO);
        BalancedLine other = new BalancedLine();
        other.cycle(30);
        due("1 objects are apart", x.count(1), 20);
    }

    static void write() {
        BalancedLine x = new BalancedLine();
        due("2 below", x.write(31), BAD);
        due("2 above", x.write(127), BAD);
        due("2 negative", x.write(-99), BAD);
        due("2 as a char it would be c", x.write(65536 + 'c'), BAD);
        due("2 lowest", x.write(32), 1);
        due("2 highest", x.write(126), 2);
        for (int i = 3; i <= 200; i++) {
            due("2 letter " + i, x.write('c'), i);
        }
        due("2 full", x.write('c'), FULL);
        due("2 full once more", x.write('c'), FULL);
        due("2 bad ahead of full", x.write(127), BAD);
        due("2 still 200", x.count(9), 200);
    }

    static void wipe() {
        BalancedLine x = new BalancedLine();
        due("3 empty", x.wipe(), 0);
        type(x, "c20;t6");
        due("3 six", x.wipe(), 6);
        due("3 again", x.wipe(), 0);
        due("3 count", x.count(9), 0);
        due("3 what is told stays", x.count(0), 9);
        due("3 write anew", x.write('c'), 1);
    }

    static void faultIs(String text, int want) {
        BalancedLine x = new BalancedLine();
        type(x, text);
        due("4 fault of " + text, x.fault(), want);
        boolean hasTask = text.contains("t");
        int before = x.count(7);
        due("5 lay of " + text, Math.min(x.lay(), 0), want == NONE && hasTask ? 0 : NO);
        if (want != NONE) {
            due("5 nothing changes by " + text, x.count(7), before);
            due("5 the text stays", x.count(9), text.length());
        }
    }

    static void fault() {
        faultIs("", NONE);
        faultIs("c", 0);
        faultIs("c;", 0);
        faultIs("c5", 0);
        faultIs("c5;", NONE);
        faultIs("c0;", 0);
        faultIs("c000;", 0);
        faultIs("c1;", NONE);
        faultIs("c007;", NONE);
        faultIs("c0007;", 0);
        faultIs("c120;", NONE);
        faultIs("c121;", 0);
        faultIs("c999;", 0);
        faultIs("c-5;", 0);
        faultIs("c 5;", 0);
        faultIs("c5 ;", 0);
        faultIs("c5a;", 0);
        faultIs("C5;", 0);
        faultIs("t5;c5;", 0);
        faultIs(";", 0);
        faultIs("pab;", 0);
        faultIs("c5;c5;", 3);
        faultIs("c5;c6;t1;", 3);
        faultIs("c5;t1;c5;", 6);
        faultIs("c5;t1;;", 6);
        faultIs("c5; t1;", 3);
        faultIs("c5;t1; ", 6);
        faultIs("c5;t1;t", 6);
        faultIs("c5;t1;t2", 6);
        faultIs("c5;t;", 3);
        faultIs("c5;t0;", 3);
        faultIs("c5;t00;", 3);
        faultIs("c5;t05;", NONE);
        faultIs("c5;t005;", 3);
        faultIs("c5;t60;", NONE);
        faultIs("c5;t61;", 3);
        faultIs("c5;t99;", 3);
        faultIs("c5;t6x;", 3);
        String twelve = "c9;t1;t1;t1;t1;t1;t1;t1;t1;t1;t1;t1;t1;";
        faultIs(twelve, NONE);
        faultIs(twelve + "t1;", twelve.length());
        faultIs(twelve + "pal;pla;", twelve.length() + 4);
        faultIs(twelve + "pam;", twelve.length());
        faultIs("c5;t1;t1;q", 9);
        faultIs("c5;t1;t1;qab;", 9);
        for (String kind : new String[] {"p", "x", "j"}) {
            String two = "c5;t1;t1;" + kind;
            faultIs(two + "ab;", NONE);
            faultIs(two + "ba;", NONE);
            faultIs(two + "ab", 9);
            faultIs(two + "a;", 9);
            faultIs(two + ";", 9);
            faultIs(two + "abb;", 9);
            faultIs(two + "aa;", 9);
            faultIs(two + "ac;", 9);
            faultIs(two + "ca;", 9);
            faultIs(two + "Ab;", 9);
            faultIs(two + "a`;", 9);
            faultIs(two + "01;", 9);
            faultIs(two + "ab;" + kind + "ab;", 13);
            faultIs(two + "ab;" + kind + "ba;", 13);
            faultIs("c5;t1;" + kind + "ab;t1;", 6);
            faultIs(two + "ab;t1;" + kind + "bc;", NONE);
        }
        faultIs("c5;t1;t1;t1;pab;pbc;pac;", NONE);
        faultIs("c5;t1;t1;t1;pab;pbc;pca;", 20);
        faultIs("c5;t1;t1;t1;pba;pcb;pac;", 20);
        faultIs("c5;t1;t1;xab;jab;", 13);
        faultIs("c5;t1;t1;xab;jba;", 13);
        faultIs("c5;t1;t1;jab;xab;", 13);
        faultIs("c5;t1;t1;jab;xba;", 13);
        faultIs("c5;t1;t1;pab;jab;", NONE);
        faultIs("c5;t1;t1;xba;pab;", NONE);
        faultIs("c5;t1;t1;t1;jab;jbc;xac;", NONE);
        faultIs("c5;t99;q;", 3);
    }

    static void lay() {
        BalancedLine x = new BalancedLine();
        x.put(0, 1);
        x.put(1, 2);
        type(x, "c033;t07;t60;t9;pca;xab;jbc;");
        due("5 three", x.lay(), 3);
        due("5 the text stays", x.count(9), 28);
        due("5 none put", x.count(5), 0);
        due("5 none to undo", x.undo(), NO);
        due("5 cycle", x.count(1), 33);
        due("5 times", x.count(7), 76);
        due("5 order", x.task(0, 1), 4);
        due("5 apart", x.task(1, 4), 1);
        due("5 joined", x.task(1, 5), 4);
        due("5 no fourth", x.task(3, 0), BAD);
        x.put(0, 3);
        due("5 laid again", x.lay(), 3);
        due("5 none put again", x.where(0), NONE);
        due("5 none to undo again", x.count(8), 0);
        x.put(0, 3);
        x.write('q');
        due("5 a fault", x.lay(), NO);
        due("5 nothing has changed", x.where(0), 3);
        due("5 no change is lost", x.count(8), 1);
        type(x, "c9;t1;");
        due("5 one task", x.lay(), 1);
        due("5 it is a line", x.fewest(), 1);
        due("5 its orders are none", x.count(2), 0);
        type(x, "c9;t1;t2;t3;t4;t5;t6;t7;t8;t9;t8;t7;t6;");
        due("5 twelve", x.lay(), 12);
        due("5 of twelve", x.task(11, 0), 6);
        due("5 no thirteenth", x.task(12, 0), BAD);
    }

    static void cycle() {
        BalancedLine x = new BalancedLine();
        due("6 zero", x.cycle(0), BAD);
        due("6 above", x.cycle(121), BAD);
        due("6 negative", x.cycle(-20), BAD);
        due("6 so", x.cycle(20), NO);
        due("6 none is a change", x.count(8), 0);
        due("6 lowest", x.cycle(1), 20);
        due("6 highest", x.cycle(120), 1);
        due("6 told", x.count(1), 120);
        due("6 in one station but for a and b", x.fewest(), 2);
        due("6 two changes", x.count(8), 2);
    }

    static void time() {
        BalancedLine x = new BalancedLine();
        due("7 no task", x.time(9, 5), BAD);
        due("7 negative task", x.time(-1, 5), BAD);
        due("7 zero", x.time(0, 0), BAD);
        due("7 above", x.time(0, 61), BAD);
        due("7 so", x.time(0, 6), NO);
        due("7 lowest", x.time(0, 1), 6);
        due("7 highest", x.time(8, 60), 10);
        due("7 told", x.task(8, 0), 60);
        due("7 together", x.count(7), 63 - 5 + 50);
        due("7 changes", x.count(8), 2);
        due("7 too long for the cycle", x.fewest(), NONE);
    }

    static void order() {
        BalancedLine x = new BalancedLine();
        due("8 alike", x.order(3, 3, 1), BAD);
        due("8 alike, not", x.order(3, 3, 0), BAD);
        due("8 no task a", x.order(9, 0, 1), BAD);
        due("8 no task b", x.order(0, 9, 1), BAD);
        due("8 negative", x.order(-1, 0, 1), BAD);
        due("8 is 2", x.order(0, 1, 2), BAD);
        due("8 is -1", x.order(0, 1, -1), BAD);
        due("8 so", x.order(0, 2, 1), NO);
        due("8 not so", x.order(2, 0, 0), NO);
        due("8 round, straight", x.order(2, 0, 1), NO);
        due("8 round, by others", x.order(8, 0, 1), NO);
        due("8 none is a change", x.count(8), 0);
        due("8 more", x.order(0, 1, 1), 9);
        due("8 b behind a", x.task(1, 1), 1);
        due("8 by others is not told", x.order(0, 8, 1), 10);
        due("8 fewer", x.order(0, 2, 0), 9);
        due("8 now it may", x.order(2, 0, 1), 10);
        due("8 bad ahead of no", x.order(0, 2, 7), BAD);
    }

    static void zone() {
        BalancedLine x = new BalancedLine();
        due("9 alike", x.zone(1, 1, 1), BAD);
        due("9 alike, neither", x.zone(1, 1, 0), BAD);
        due("9 no task", x.zone(0, 9, 1), BAD);
        due("9 negative", x.zone(-1, 0, 1), BAD);
        due("9 how 3", x.zone(0, 1, 3), BAD);
        due("9 how -1", x.zone(0, 1, -1), BAD);
        due("9 apart already", x.zone(1, 0, 1), NO);
        due("9 joined already", x.zone(5, 2, 2), NO);
        due("9 neither already", x.zone(3, 4, 0), NO);
        due("9 none is a change", x.count(8), 0);
        due("9 joined now", x.zone(1, 0, 2), 1);
        due("9 both ways", x.task(0, 5), 2);
        due("9 no more apart", x.task(0, 4), 0);
        due("9 apart now", x.zone(0, 1, 1), 2);
        due("9 no more joined", x.task(1, 5), 0);
        due("9 neither now", x.zone(1, 0, 0), 1);
        due("9 neither", x.task(0, 4), 0);
        due("9 one change each", x.count(8), 3);
        due("9 joined with ones apart", x.zone(0, 1, 1), 0);
        due("9 pairs", x.count(3), 1);
    }

    static void undo() {
        BalancedLine x = new BalancedLine();
        due("10 none", x.undo(), NO);
        for (int c = 21; c <= 28; c++) {
            x.cycle(c);
        }
        due("10 six can be", x.count(8), 6);
        for (int left = 5; left >= 0; left--) {
            due("10 undone", x.undo(), left);
            due("10 the cycle then", x.count(1), 22 + left);
        }
        due("10 no more", x.undo(), NO);
        due("10 the oldest are lost", x.count(1), 22);
        x.time(0, 7);
        x.order(0, 1, 1);
        x.zone(0, 1, 0);
        x.put(0, 1);
        x.off(0);
        x.adopt();
        due("10 adopt", x.undo(), 5);
        due("10 adopt", x.count(5), 0);
        due("10 off", x.undo(), 4);
        due("10 off", x.where(0), 1);
        due("10 put", x.undo(), 3);
        due("10 put", x.where(0), NONE);
        due("10 zone", x.undo(), 2);
        due("10 zone", x.task(0, 4), 2);
        due("10 order", x.undo(), 1);
        due("10 order", x.count(2), 8);
        due("10 time", x.undo(), 0);
        due("10 time", x.task(0, 0), 6);
        x.adopt();
        x.adopt();
        due("10 an adopt by which nothing becomes another", x.undo(), 1);
        due("10 all as ahead of it", x.count(5), 9);
        due("10 the first adopt", x.undo(), 0);
        due("10 nothing put", x.count(5), 0);
        x.write('c');
        due("10 letters are no change", x.undo(), NO);
        due("10 the letter stays", x.count(9), 1);
        due("10 fewest as ahead", x.fewest(), 4);
        x.cycle(120);
        due("10 fewest then", x.fewest(), 2);
        x.undo();
        due("10 fewest undone", x.fewest(), 4);
    }

    static void task() {
        BalancedLine x = new BalancedLine();
        due("11 time", x.task(4, 0), 11);
        due("11 ahead of i", x.task(8, 1), 192);
        due("11 behind a", x.task(0, 2), 4);
        due("11 behind a, by others too", x.task(0, 3), 4 + 32 + 64 + 256);
        due("11 behind i", x.task(8, 3), 0);
        due("11 apart", x.task(0, 4), 2);
        due("11 joined", x.task(5, 5), 4);
        due("11 what 6", x.task(0, 6), BAD);
        due("11 what -1", x.task(0, -1), BAD);
        due("11 no task", x.task(9, 0), BAD);
        due("11 negative", x.task(-1, 0), BAD);
    }

    static void put() {
        BalancedLine x = new BalancedLine();
        due("12 no task", x.put(9, 1), BAD);
        due("12 negative", x.put(-1, 1), BAD);
        due("12 station 0", x.put(0, 0), BAD);
        due("12 station 13", x.put(0, 13), BAD);
        due("12 put", x.put(0, 12), 6);
        due("12 put there", x.put(0, 12), NO);
        due("12 elsewhere", x.put(0, 1), 6);
        due("12 in place of where it was", x.station(12, 0), 0);
        due("12 more there", x.put(3, 1), 11);
        due("12 apart", x.put(1, 1), NO);
        due("12 too long", x.put(4, 1), NO);
        due("12 only changes", x.count(8), 3);
        due("12 a full station", x.put(1, 1), NO);
        BalancedLine y = laid("c10;t10;t1;");
        due("12 just the cycle", y.put(0, 1), 10);
        due("12 one more", y.put(1, 1), NO);
    }

    static void off() {
        BalancedLine x = new BalancedLine();
        due("13 no task", x.off(9), BAD);
        due("13 negative", x.off(-1), BAD);
        due("13 not put", x.off(0), NO);
        x.put(0, 7);
        due("13 off", x.off(0), 7);
        due("13 off again", x.off(0), NO);
        due("13 where", x.where(0), NONE);
        due("13 two changes", x.count(8), 2);
    }

    static void why() {
        BalancedLine x = laid("c10;t4;t4;t4;t6;t9;pab;pbc;xad;jcd;");
        due("14 no task", x.why(5, 1), BAD);
        due("14 negative", x.why(-1, 1), BAD);
        due("14 station 0", x.why(0, 0), BAD);
        due("14 station 13", x.why(0, 13), BAD);
        x.put(1, 3);
        due("14 a later than b", x.why(0, 4), 2);
        due("14 a with b", x.why(0, 3), 0);
        due("14 c earlier than b", x.why(2, 2), 1);
        due("14 c with b", x.why(2, 3), 0);
        due("14 by others does not count", x.put(0, 2) + x.off(1), 4 + 3);
        due("14 c ahead of a", x.why(2, 1), 0);
        x.put(3, 5);
        due("14 joined elsewhere", x.why(2, 4), 5);
        due("14 joined there", x.why(2, 5), 0);
        due("14 apart", x.why(0, 5), 4);
        due("14 where it is", x.why(3, 5), 0);
        due("14 just the cycle", x.why(1, 5), 0);
        due("14 too long", x.why(4, 5), 3);
        due("14 too long with a", x.why(4, 2), 3);
        due("14 alone", x.why(4, 1), 0);
        x.time(4, 11);
        due("14 too long alone", x.why(4, 1), 3);
        due("14 it is no change", x.count(8), 5);
        BalancedLine y = laid("c10;t5;t5;t6;pab;pbc;xac;jbc;");
        y.put(1, 4);
        y.put(0, 4);
        due("14 1 ahead of 5", y.why(2, 3), 1);
        due("14 3 ahead of 4", y.why(2, 4), 3);
        due("14 5 alone", y.why(2, 5), 5);
        y.cycle(20);
        due("14 4 now", y.why(2, 4), 4);
        BalancedLine z = laid("c10;t9;t9;t9;pab;pbc;");
        z.put(0, 5);
        z.put(2, 3);
        due("14 1 ahead of 2", z.why(1, 4), 1);
        due("14 1 ahead of 3", z.why(1, 3), 1);
        due("14 2 ahead of 3", z.why(1, 5), 2);
    }

    static void station() {
        BalancedLine x = new BalancedLine();
        due("15 station 0", x.station(0, 0), BAD);
        due("15 station 13", x.station(13, 0), BAD);
        due("15 what 3", x.station(1, 3), BAD);
        due("15 what -1", x.station(1, -1), BAD);
        due("15 empty", x.station(12, 0), 0);
        due("15 no time", x.station(12, 1), 0);
        due("15 the cycle", x.station(12, 2), 20);
        x.put(1, 12);
        x.put(3, 12);
        due("15 tasks", x.station(12, 0), 10);
        due("15 times", x.station(12, 1), 14);
        due("15 left of the cycle", x.station(12, 2), 6);
    }

    static void where() {
        BalancedLine x = new BalancedLine();
        due("16 no task", x.where(9), BAD);
        due("16 negative", x.where(-1), BAD);
        due("16 none", x.where(8), NONE);
        x.put(8, 12);
        due("16 put", x.where(8), 12);
    }

    static void left() {
        BalancedLine x = new BalancedLine();
        due("17 nothing put", x.left(), 4);
        x.put(0, 2);
        due("17 with one that is put", x.left(), 4);
        x.put(1, 3);
        due("17 later ones", x.left(), 5);
        x.off(1);
        x.put(8, 9);
        due("17 the last that is put", x.left(), 9);
        x.put(8, 1);
        due("17 the last one first", x.left(), NONE);
        BalancedLine y = laid("c10;t10;t10;t10;pab;pbc;");
        y.put(0, 10);
        due("17 empty ones ahead", y.left(), 12);
        y.put(0, 11);
        due("17 more than twelve", y.left(), NONE);
        y.put(0, 1);
        y.put(2, 2);
        due("17 no room between", y.left(), NONE);
        y.put(2, 5);
        due("17 an empty one between", y.left(), 5);
        BalancedLine z = laid("c10;t5;t5;t5;t5;");
        z.put(0, 1);
        z.put(1, 2);
        due("17 also with those that are put", z.left(), 2);
        z.zone(0, 2, 2);
        z.zone(1, 2, 2);
        due("17 no line", z.left(), NONE);
    }

    static void adopt() {
        BalancedLine x = new BalancedLine();
        x.put(8, 12);
        due("18 four", x.adopt(), 4);
        int[] best = {1, 2, 1, 2, 3, 1, 3, 4, 4};
        for (int t = 0; t < 9; t++) {
            due("18 in place of all " + t, x.where(t), best[t]);
            due("18 the best " + t, x.best(t), best[t]);
            due("18 no why not " + t, x.why(t, best[t]), 0);
        }
        due("18 one change", x.count(8), 2);
        due("18 again", x.adopt(), 4);
        due("18 a change, too", x.count(8), 3);
        x.cycle(10);
        due("18 no line", x.adopt(), NONE);
        due("18 no change", x.count(8), 4);
    }

    static void floor() {
        BalancedLine x = laid("c10;t5;t5;t5;t6;t1;pab;pbd;");
        due("19 all", x.floor(0), 3);
        due("19 halves", x.floor(1), 3);
        due("19 chains", x.floor(2), 2);
        due("19 which 3", x.floor(3), BAD);
        due("19 which -1", x.floor(-1), BAD);
        x.cycle(11);
        due("19 all, just", x.floor(0), 2);
        due("19 an odd cycle", x.floor(1), 1);
        x.cycle(1);
        due("19 all by one", x.floor(0), 22);
        due("19 halves by one", x.floor(1), 5);
        due("19 chains by one", x.floor(2), 16);
        x.cycle(16);
        due("19 chains by themselves", x.floor(2), 1);
        x.cycle(15);
        due("19 chains rounded up", x.floor(2), 2);
        due("19 an even number of halves", laid("c10;t5;t5;").floor(1), 1);
        due("19 an odd number of halves", laid("c10;t5;t5;t5;t5;t5;").floor(1), 3);
    }

    static void load() {
        BalancedLine x = new BalancedLine();
        due("20 how many", x.load(-1), 4);
        int[] loads = {1, 2, 10, 37};
        for (int i = 0; i < 4; i++) {
            due("20 load " + i, x.load(i), loads[i]);
        }
        due("20 not so many", x.load(4), NONE);
        due("20 below", x.load(-2), BAD);
        x.cycle(9);
        due("20 by 9", x.load(-1), 2);
        x.cycle(5);
        due("20 by 5", x.load(-1), 0);
        due("20 none", x.load(0), NONE);
        due("20 none at all is no bad", x.load(-1), 0);
        due("20 all but the empty one", laid("c12;t1;t1;t1;t1;t1;t1;t1;t1;t1;t1;t1;t1;").load(-1), 4095);
    }

    static void full() {
        BalancedLine x = new BalancedLine();
        due("21 how many", x.full(-1), 2);
        due("21 first", x.full(0), 10);
        due("21 second", x.full(1), 37);
        due("21 not so many", x.full(2), NONE);
        due("21 below", x.full(-2), BAD);
        x.cycle(5);
        due("21 none", x.full(-1), 0);
        due("21 not one", x.full(0), NONE);
        BalancedLine y = laid("c10;t5;t5;t5;");
        due("21 pairs", y.full(-1), 3);
        due("21 a b", y.full(0), 3);
        due("21 a c", y.full(1), 5);
        due("21 b c", y.full(2), 6);
        y.zone(0, 1, 2);
        due("21 joined ones go together", y.full(-1), 2);
        due("21 joined", y.full(0), 3);
        due("21 the other", y.full(1), 4);
        BalancedLine z = laid("c12;t1;t1;t1;t1;t1;t1;t1;t1;t1;t1;t1;t1;");
        due("21 one holds all", z.full(-1), 1);
        due("21 all", z.full(0), 4095);
    }

    static void fewestAndBest() {
        BalancedLine x = laid("c10;t5;t5;t5;t6;");
        due("22 three", x.fewest(), 3);
        int[] best = {1, 1, 2, 3};
        for (int t = 0; t < 4; t++) {
            due("23 best of " + t, x.best(t), best[t]);
        }
        due("23 no task", x.best(4), BAD);
        due("23 negative", x.best(-1), BAD);
        x.order(3, 0, 1);
        due("23 d ahead", x.best(0), 2);
        due("23 d first", x.best(3), 1);
        due("23 b with a", x.best(1), 2);
        due("23 c last", x.best(2), 3);
        x.time(0, 60);
        due("22 none", x.fewest(), NONE);
        due("23 none", x.best(0), NONE);
        due("23 bad ahead of none", x.best(4), BAD);
        BalancedLine one = laid("c120;t60;");
        due("22 one", one.fewest(), 1);
        due("23 one", one.best(0), 1);
        BalancedLine twelve = laid("c1;t1;t1;t1;t1;t1;t1;t1;t1;t1;t1;t1;t1;");
        due("22 twelve", twelve.fewest(), 12);
        due("23 the last of twelve", twelve.best(11), 12);
        BalancedLine apart = laid("c9;t1;t1;t1;xab;xbc;");
        due("22 apart", apart.fewest(), 2);
        due("23 apart", apart.best(1) * 10 + apart.best(2), 21);
        apart.zone(0, 2, 1);
        due("22 all apart", apart.fewest(), 3);
        BalancedLine between = laid("c18;t9;t1;t9;pab;pbc;jac;");
        due("22 one between joined ones", between.fewest(), NONE);
        between.cycle(19);
        due("22 it goes with them", between.fewest(), 1);
    }

    static void many() {
        due("24 twelve by two", laid("c2;t1;t1;t1;t1;t1;t1;t1;t1;t1;t1;t1;t1;").many(), 1000000);
        due("24 twelve by three", laid("c3;t1;t1;t1;t1;t1;t1;t1;t1;t1;t1;t1;t1;").many(), 369600);
        due("24 ten by one", laid("c1;t1;t1;t1;t1;t1;t1;t1;t1;t1;t1;").many(), 1000000);
        due("24 nine by one", laid("c1;t1;t1;t1;t1;t1;t1;t1;t1;t1;").many(), 362880);
        due("24 twelve in a row", laid("c1;t1;t1;t1;t1;t1;t1;t1;t1;t1;t1;t1;t1;pab;pbc;pcd;pde;pef;pfg;pgh;phi;pij;pjk;pkl;").many(), 1);
        due("24 one", laid("c9;t9;").many(), 1);
        due("24 no line", laid("c9;t10;").many(), 0);
        due("24 two stations", laid("c9;t5;t5;t1;").many(), 4);
    }

    static void may() {
        BalancedLine x = laid("c9;t5;t5;t4;pab;");
        due("25 a", x.may(0), 2);
        due("25 b", x.may(1), 4);
        due("25 c", x.may(2), 6);
        due("25 no task", x.may(3), BAD);
        due("25 negative", x.may(-1), BAD);
        x.time(0, 10);
        due("25 none", x.may(0), NONE);
        due("25 bad ahead of none", x.may(3), BAD);
        BalancedLine y = laid("c1;t1;t1;t1;t1;t1;t1;t1;t1;t1;t1;t1;t1;pab;");
        due("25 all but the last", y.may(0), 4094);
        due("25 all but the first", y.may(1), 8188);
        due("25 anywhere", y.may(2), 8190);
    }

    static void shortest() {
        BalancedLine x = laid("c1;t60;t60;t60;t60;t60;t60;t60;t60;t60;t60;t60;t60;");
        due("26 none by 1", x.fewest(), NONE);
        due("26 one", x.shortest(1), 720);
        due("26 five", x.shortest(5), 180);
        due("26 twelve", x.shortest(12), 60);
        due("26 eleven", x.shortest(11), 120);
        due("26 zero", x.shortest(0), BAD);
        due("26 thirteen", x.shortest(13), BAD);
        due("26 negative", x.shortest(-1), BAD);
        x.zone(0, 1, 1);
        due("26 none of one", x.shortest(1), NONE);
        due("26 two", x.shortest(2), 360);
        BalancedLine y = laid("c9;t3;t4;t5;pab;pbc;");
        due("26 fewer are as good", y.shortest(12), 5);
        due("26 two in a row", y.shortest(2), 7);
        due("26 nothing changes", y.count(1), 9);
        y.zone(0, 2, 2);
        due("26 joined", y.shortest(3), 12);
        y.zone(0, 1, 1);
        due("26 never", y.shortest(12), NONE);
    }

    static void by() {
        BalancedLine x = new BalancedLine();
        due("27 zero", x.by(0), BAD);
        due("27 above", x.by(121), BAD);
        due("27 highest", x.by(120), 2);
        due("27 lowest", x.by(1), NONE);
        due("27 as told", x.by(20), 4);
        due("27 eleven", x.by(11), 7);
        due("27 nothing changes", x.count(1), 20);
        due("27 no change", x.count(8), 0);
        due("27 fewest as ahead", x.fewest(), 4);
        due("27 loads as ahead", x.load(-1), 4);
    }

    static void were() {
        BalancedLine x = laid("c10;t5;t5;t5;t5;");
        due("28 no task", x.were(4, 1), BAD);
        due("28 negative", x.were(-1, 1), BAD);
        due("28 zero", x.were(0, 0), BAD);
        due("28 above", x.were(0, 61), BAD);
        due("28 as told", x.were(0, 5), 2);
        due("28 longer", x.were(0, 6), 3);
        due("28 shorter", x.were(0, 1), 2);
        due("28 too long", x.were(0, 11), NONE);
        due("28 just the cycle", x.were(0, 10), 3);
        due("28 nothing changes", x.count(7), 20);
        x.time(3, 11);
        due("28 a line again", x.were(3, 5), 2);
        due("28 still none", x.were(0, 5), NONE);
    }

    static void binds() {
        BalancedLine x = laid("c10;t6;t6;t4;t4;pab;pbc;pbd;");
        due("29 three stations", x.fewest(), 3);
        due("29 how many", x.binds(-1), 3);
        due("29 a b", x.binds(0), 1);
        due("29 b c", x.binds(1), 102);
        due("29 b d", x.binds(2), 103);
        due("29 not so many", x.binds(3), NONE);
        due("29 below", x.binds(-2), BAD);
        due("29 nothing changes", x.count(2), 3);
        due("29 still three", x.fewest(), 3);
        x.order(0, 2, 1);
        due("29 a c is one more that does not bind", x.binds(-1), 3);
        due("29 first then", x.binds(0), 1);
        due("29 second then", x.binds(1), 102);
        due("29 four orders", x.count(2), 4);
        BalancedLine y = laid("c18;t9;t1;t9;pab;pbc;jac;");
        due("29 no line", y.fewest(), NONE);
        due("29 a line without", y.binds(-1), 2);
        due("29 without a b", y.binds(0), 1);
        due("29 without b c", y.binds(1), 102);
        y.cycle(19);
        due("29 none binds", y.binds(-1), 0);
        y.cycle(17);
        due("29 no line without either", y.binds(-1), 0);
        due("29 without orders", laid("c9;t9;t9;").binds(-1), 0);
    }

    static void count() {
        BalancedLine x = laid("c10;t6;t6;t4;t4;pab;pbc;pbd;xab;jcd;");
        int[] first = {4, 10, 3, 1, 1, 0, 0, 20, 0, 36, 10, 0};
        for (int what = 0; what < 12; what++) {
            due("30 count " + what, x.count(what), first[what]);
        }
        x.put(0, 3);
        x.put(2, 8);
        x.put(3, 8);
        int[] then = {4, 10, 3, 1, 1, 3, 2, 20, 3, 36, 10, 6};
        for (int what = 0; what < 12; what++) {
            due("30 count then " + what, x.count(what), then[what]);
        }
        due("30 what 12", x.count(12), BAD);
        due("30 what -1", x.count(-1), BAD);
        x.zone(0, 1, 2);
        due("30 no line", x.count(10), NONE);
        due("30 none apart", x.count(3), 0);
        due("30 two joined", x.count(4), 2);
    }

    static void takenOff() {
        BalancedLine x = laid("c10;t3;t3;t3;");
        x.put(0, 1);
        x.put(1, 1);
        x.put(2, 1);
        x.cycle(6);
        due("off by the cycle: the lowest", x.where(0), NONE);
        due("off by the cycle: the next stays", x.where(1), 1);
        due("off by the cycle: the last stays", x.where(2), 1);
        due("one change", x.count(8), 4);
        x.undo();
        due("put as ahead", x.where(0), 1);
        x.time(2, 10);
        due("off by a time: the lowest", x.where(0), NONE);
        due("off by a time: the next", x.where(1), NONE);
        due("off by a time: itself stays", x.where(2), 1);
        x.undo();
        x.put(2, 2);
        x.order(2, 0, 1);
        due("off by an order: the one behind", x.where(0), NONE);
        due("off by an order: the one ahead stays", x.where(2), 2);
        x.undo();
        x.order(2, 1, 1);
        x.undo();
        x.zone(0, 1, 1);
        due("off by apart", x.where(0), NONE);
        due("off by apart: the other stays", x.where(1), 1);
        x.undo();
        x.zone(1, 2, 2);
        due("off by joined", x.where(1), NONE);
        due("off by joined: the other stays", x.where(2), 2);
        due("off by joined: one that is in no pair", x.where(0), 1);
        x.zone(1, 2, 0);
        due("a pair less takes none off", x.count(5), 2);
    }

    /** The most tasks there can be, put in the last station. */
    static void twelveTasks() {
        BalancedLine x = laid("c12;t1;t1;t1;t1;t1;t1;t1;t1;t1;t1;t1;t1;pkl;pal;xbl;jcl;");
        due("12: orders", x.count(2), 2);
        due("12: apart", x.count(3), 1);
        due("12: joined", x.count(4), 1);
        due("12: behind", x.task(10, 2), 2048);
        due("12: all behind", x.task(10, 3), 2048);
        due("12: behind the last", x.task(11, 2), 0);
        due("12: ahead", x.task(11, 1), 1 + 1024);
        due("12: halves", x.floor(1), 0);
        due("12: chains", x.floor(2), 1);
        due("12: fewest", x.fewest(), 2);
        due("12: adopt", x.adopt(), 2);
        due("12: the last", x.where(11), 2);
        due("12: the one apart goes first, as it is told first", x.where(1), 1);
        due("12: put", x.count(5), 12);
        due("12: used", x.count(6), 2);
        due("12: left of the cycle", x.count(11), 12);
        for (int t = 0; t < 12; t++) {
            x.off(t);
        }
        due("12: off", x.count(5), 0);
        due("12: why", x.why(11, 12), 0);
        due("12: put last", x.put(11, 12), 1);
        due("12: left", x.left(), 12);
        due("12: used last", x.count(6), 1);
        due("12: joined elsewhere", x.why(2, 11), 5);
        due("12: time", x.time(11, 2), 1);
        due("12: times", x.station(12, 1), 2);
        due("12: were", x.were(11, 60), NONE);
        due("12: by", x.by(13), 2);
        due("12: shortest", x.shortest(2), 7);
        due("12: binds", x.binds(-1), 0);
        due("12: order", x.order(11, 0, 1), NO);
        due("12: may", x.may(11), 6);
        int row = 0;
        BalancedLine y = laid("c60;t1;t1;t1;t1;t1;t1;t1;t1;t1;t1;t1;t1;");
        for (int a = 0; a < 12; a++) {
            for (int b = a + 1; b < 12; b++) {
                row++;
                due("12: all orders", y.order(a, b, 1), row);
            }
        }
        due("12: the first goes first", y.load(-1), 12);
        due("12: no more orders", y.order(11, 0, 1), NO);
        due("12: one station", y.fewest(), 1);
        due("12: none binds", y.binds(-1), 0);
        due("12: all behind the first", y.task(0, 3), 4094);
        y.zone(0, 11, 1);
        due("12: the ends apart", y.fewest(), 2);
        due("12: eleven ways", y.many(), 11);
    }

    static void textOfTwoHundred() {
        BalancedLine x = new BalancedLine();
        StringBuilder text = new StringBuilder("c99;");
        for (int i = 0; i < 12; i++) {
            text.append("t10;");
        }
        for (int k = 1; k < 12 && text.length() < 200; k++) {
            for (int a = 0; a + k < 12 && text.length() < 200; a++) {
                text.append('p').append((char) ('a' + a)).append((char) ('a' + a + k)).append(';');
            }
        }
        type(x, text.toString());
        due("200: as long", x.count(9), 200);
        due("200: no fault", x.fault(), NONE);
        due("200: laid", x.lay(), 12);
        due("200: orders", x.count(2), 37);
        type(x, text.substring(0, 199) + "c");
        due("200: the last item has no end", x.fault(), 196);
        due("200: not laid", x.lay(), NO);
        type(x, "c".repeat(200));
        due("200: no end at all", x.fault(), 0);
        type(x, ";".repeat(200));
        due("200: ends alone", x.fault(), 0);
    }

    /** What was found out of more tasks leaves no trace among fewer. */
    static void laidSmaller() {
        BalancedLine x = laid("c5;t5;t5;t5;t5;t5;t5;t5;t5;t5;t5;t5;t5;pab;xcd;jef;");
        x.cycle(10);
        due("more: no two apart, two joined", x.fewest(), 6);
        due("more: binds", x.binds(-1), 0);
        due("more: left", x.left(), 6);
        type(x, "c5;t5;t5;t5;");
        due("fewer: laid", x.lay(), 3);
        due("fewer: fewest", x.fewest(), 3);
        due("fewer: many", x.many(), 6);
        for (int t = 0; t < 3; t++) {
            due("fewer: best of " + t, x.best(t), t + 1);
            due("fewer: may of " + t, x.may(t), 14);
        }
        due("fewer: loads", x.load(-1), 3);
        due("fewer: full", x.full(-1), 3);
        due("fewer: no pairs", x.count(2) + x.count(3) + x.count(4), 0);
        due("fewer: times", x.count(7), 15);
        due("fewer: shortest", x.shortest(2), 10);
    }

    /** No number, however far off, is more than BAD, NO or NONE. */
    static void wholeRangeOfInt() {
        BalancedLine x = new BalancedLine();
        int[] far = {Integer.MIN_VALUE, Integer.MIN_VALUE + 1, -1000, 1000, 1 << 16, Integer.MAX_VALUE - 1, Integer.MAX_VALUE};
        for (int n : far) {
            due("write", x.write(n), BAD);
            due("cycle", x.cycle(n), BAD);
            due("time t", x.time(n, 5), BAD);
            due("time v", x.time(0, n), BAD);
            due("order a", x.order(n, 0, 1), BAD);
            due("order b", x.order(0, n, 1), BAD);
            due("order both", x.order(n, n, 1), BAD);
            due("order is", x.order(0, 1, n), BAD);
            due("zone a", x.zone(n, 0, 1), BAD);
            due("zone b", x.zone(0, n, 1), BAD);
            due("zone how", x.zone(0, 2, n), BAD);
            due("task t", x.task(n, 0), BAD);
            due("task what", x.task(0, n), BAD);
            due("put t", x.put(n, 1), BAD);
            due("put station", x.put(0, n), BAD);
            due("off", x.off(n), BAD);
            due("why t", x.why(n, 1), BAD);
            due("why station", x.why(0, n), BAD);
            due("station k", x.station(n, 0), BAD);
            due("station what", x.station(1, n), BAD);
            due("where", x.where(n), BAD);
            due("floor", x.floor(n), BAD);
            due("load", x.load(n), n < 0 ? BAD : NONE);
            due("full", x.full(n), n < 0 ? BAD : NONE);
            due("best", x.best(n), BAD);
            due("may", x.may(n), BAD);
            due("shortest", x.shortest(n), BAD);
            due("by", x.by(n), BAD);
            due("were t", x.were(n, 5), BAD);
            due("were v", x.were(0, n), BAD);
            due("binds", x.binds(n), n < 0 ? BAD : NONE);
            due("count", x.count(n), BAD);
        }
        due("nothing has changed", x.count(8), 0);
    }
}
