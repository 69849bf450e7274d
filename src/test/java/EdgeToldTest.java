/** The edges that the document names for what is told: promises 1 to 11. */
public final class EdgeToldTest {
    static final int BAD = Edges.BAD, NO = Edges.NO, FULL = Edges.FULL, NONE = Edges.NONE;
    static final String AT_FIRST = "c20;t6;t9;t4;t5;t11;t3;t8;t7;t10;pac;pbd;pcf;pde;pfg;peh;pgi;phi;xab;jcf;";

    public static void main(String[] args) throws ReflectiveOperationException {
        Edges.run(EdgeToldTest.class, 1, 11);
    }

    static void due(String what, int got, int want) {
        Edges.due(what, got, want);
    }

    // ---- 1: As told; THE TEXT is empty.

    static void promise01_theTextIsEmpty() {
        BalancedLine x = new BalancedLine();
        due("letters", x.count(9), 0);
        due("fault", x.fault(), NONE);
        due("lay", x.lay(), NO);
        due("wipe", x.wipe(), 0);
        due("the first letter", x.write('c'), 1);
    }

    static void promise01_asTheFirstTextTells() {
        BalancedLine x = new BalancedLine();
        BalancedLine y = Edges.laid(AT_FIRST);
        y.wipe();
        Edges.same("a new object", x, y);
    }

    static void promise01_nineTasksAndNoTenth() {
        BalancedLine x = new BalancedLine();
        due("tasks", x.count(0), 9);
        due("time of i", x.task(8, 0), 10);
        due("time of j", x.task(9, 0), BAD);
    }

    static void promise01_nothingIsPutNothingCanBeUndone() {
        BalancedLine x = new BalancedLine();
        for (int t = 0; t < 9; t++) {
            due("where " + t, x.where(t), NONE);
        }
        due("put", x.count(5), 0);
        due("stations", x.count(6), 0);
        due("changes", x.count(8), 0);
        due("undo", x.undo(), NO);
    }

    static void promise01_objectsShareNothing() {
        BalancedLine one = new BalancedLine();
        BalancedLine other = Edges.busy();
        Edges.same("another object", one, new BalancedLine());
        Edges.same("another object", Edges.busy(), other);
    }

    // ---- 2: A letter (32 to 126) comes behind THE TEXT: how long it is. BAD; FULL: it has 200.

    static void promise02_theLowestLetter() {
        BalancedLine x = new BalancedLine();
        due("31", x.write(31), BAD);
        due("32", x.write(32), 1);
        due("31 behind it", x.write(31), BAD);
        due("letters", x.count(9), 1);
    }

    static void promise02_theHighestLetter() {
        BalancedLine x = new BalancedLine();
        due("127", x.write(127), BAD);
        due("126", x.write(126), 1);
        due("127 behind it", x.write(127), BAD);
        due("letters", x.count(9), 1);
    }

    static void promise02_eachLetterBetween() {
        BalancedLine x = new BalancedLine();
        for (int letter = 32; letter <= 126; letter++) {
            due("letter " + letter, x.write(letter), letter - 31);
        }
    }

    static void promise02_lettersFarOff() {
        BalancedLine x = new BalancedLine();
        for (int far : Edges.FAR) {
            due("letter " + far, x.write(far), BAD);
        }
        for (int letter : new int[] {-1, 0, 10, 128, 'c' - 256, 'c' + 256, 'c' + 65536, 'c' - 65536}) {
            due("letter " + letter, x.write(letter), BAD);
        }
        due("letters", x.count(9), 0);
    }

    static void promise02_theLastPlaceAndNoMore() {
        BalancedLine x = new BalancedLine();
        for (int i = 1; i <= 199; i++) {
            due("letter", x.write('z'), i);
        }
        due("the last one", x.write('z'), 200);
        due("one more", x.write('z'), FULL);
        due("and one more", x.write('z'), FULL);
        due("letters", x.count(9), 200);
    }

    static void promise02_badAheadOfFull() {
        BalancedLine x = Edges.typed("z".repeat(200));
        due("31", x.write(31), BAD);
        due("127", x.write(127), BAD);
        due("32", x.write(32), FULL);
        due("126", x.write(126), FULL);
    }

    static void promise02_aFullTextStaysAsItIs() {
        BalancedLine x = Edges.typed(twoHundred());
        due("one more", x.write('q'), FULL);
        due("a wrong one", x.write(7), BAD);
        due("fault", x.fault(), NONE);
        due("lay", x.lay(), 12);
        due("orders", x.count(2), 37);
    }

    static void promise02_aWrongLetterLeavesNoGap() {
        BalancedLine x = Edges.typed("c2");
        due("wrong", x.write(200), BAD);
        Edges.type(x, "0;t");
        due("wrong", x.write(0), BAD);
        Edges.type(x, "6;");
        due("fault", x.fault(), NONE);
        due("lay", x.lay(), 1);
        due("cycle", x.count(1), 20);
        due("time", x.task(0, 0), 6);
    }

    static void promise02_roomAgainBehindWipe() {
        BalancedLine x = Edges.typed("z".repeat(200));
        due("full", x.write('c'), FULL);
        due("wipe", x.wipe(), 200);
        due("write", x.write('c'), 1);
    }

    static void promise02_aLetterIsNoChange() {
        BalancedLine x = Edges.busy();
        due("write", x.write('z'), 14);
        due("changes", x.count(8), 6);
        due("undo", x.undo(), 5);
        due("letters", x.count(9), 14);
    }

    static void promise02_refusedLettersLeaveAll() {
        Edges.refused("write(31)", x -> x.write(31), BAD);
        Edges.refused("write(127)", x -> x.write(127), BAD);
    }

    /** Twelve tasks and 37 orders: a text of just 200 letters. */
    static String twoHundred() {
        StringBuilder text = new StringBuilder(Edges.alike(99, 12, 10));
        for (int step = 1; step < 12 && text.length() < 200; step++) {
            for (int a = 0; a + step < 12 && text.length() < 200; a++) {
                text.append('p').append((char) ('a' + a)).append((char) ('a' + a + step)).append(';');
            }
        }
        return text.toString();
    }

    // ---- 3: THE TEXT is empty: how long it was.

    static void promise03_anEmptyText() {
        BalancedLine x = new BalancedLine();
        due("wipe", x.wipe(), 0);
        due("wipe again", x.wipe(), 0);
    }

    static void promise03_oneLetter() {
        BalancedLine x = Edges.typed("c");
        due("wipe", x.wipe(), 1);
        due("wipe again", x.wipe(), 0);
    }

    static void promise03_aFullText() {
        BalancedLine x = Edges.typed("z".repeat(200));
        x.write('z');
        due("wipe", x.wipe(), 200);
        due("letters", x.count(9), 0);
        due("wipe again", x.wipe(), 0);
    }

    static void promise03_nothingOfTheOldTextIsLeft() {
        BalancedLine x = Edges.typed("c20;t6;t9;");
        x.wipe();
        due("fault", x.fault(), NONE);
        due("lay", x.lay(), NO);
        Edges.type(x, "c3;");
        due("fault", x.fault(), NONE);
        due("lay without a task", x.lay(), NO);
    }

    static void promise03_allButTheTextStays() {
        BalancedLine x = Edges.busy();
        due("wipe", x.wipe(), 13);
        BalancedLine y = Edges.busy();
        Edges.type(x, "c7;t3;t4;pba;");
        Edges.same("wiped and written anew", x, y);
    }

    // ---- 4: FAULT. NONE.

    static void faultIs(String text, int want) {
        due("fault of " + text, Edges.typed(text).fault(), want);
    }

    static void promise04_anEmptyTextHasNone() {
        faultIs("", NONE);
    }

    static void promise04_theCycleOneTo120() {
        faultIs("c0;", 0);
        faultIs("c1;", NONE);
        faultIs("c120;", NONE);
        faultIs("c121;", 0);
        faultIs("c999;", 0);
    }

    static void promise04_theCycleOneToThreeFigures() {
        faultIs("c;", 0);
        faultIs("c5;", NONE);
        faultIs("c05;", NONE);
        faultIs("c005;", NONE);
        faultIs("c0005;", 0);
        faultIs("c0;", 0);
        faultIs("c00;", 0);
        faultIs("c000;", 0);
        faultIs("c1000;", 0);
        faultIs("c0120;", 0);
    }

    static void promise04_figuresAreNoughtToNine() {
        for (int letter = 32; letter <= 126; letter++) {
            boolean figure = letter >= '0' && letter <= '9';
            boolean end = letter == ';';
            faultIs("c1" + (char) letter + ";", figure ? NONE : end ? 3 : 0);
            faultIs("c10;t" + (char) letter + ";", figure && letter != '0' ? NONE : 4);
            faultIs("c10;t1" + (char) letter + ";", figure ? NONE : end ? 7 : 4);
        }
    }

    static void promise04_theFirstItemIsTheCycle() {
        faultIs("t5;", 0);
        faultIs("t5;c5;", 0);
        faultIs("pab;c5;", 0);
        faultIs("xab;c5;", 0);
        faultIs("jab;c5;", 0);
        faultIs(";c5;", 0);
        faultIs(" c5;", 0);
        faultIs("C5;", 0);
    }

    static void promise04_theCycleJustOnce() {
        faultIs("c5;c5;", 3);
        faultIs("c5;c6;", 3);
        faultIs("c5;t1;c5;", 6);
        faultIs("c5;t1;t1;pab;c5;", 13);
    }

    static void promise04_eachTimeOneTo60() {
        faultIs("c5;t0;", 3);
        faultIs("c5;t1;", NONE);
        faultIs("c5;t60;", NONE);
        faultIs("c5;t61;", 3);
        faultIs("c5;t99;", 3);
    }

    static void promise04_eachTimeOneOrTwoFigures() {
        faultIs("c5;t;", 3);
        faultIs("c5;t5;", NONE);
        faultIs("c5;t05;", NONE);
        faultIs("c5;t005;", 3);
        faultIs("c5;t00;", 3);
        faultIs("c5;t060;", 3);
        faultIs("c5;t100;", 3);
    }

    static void promise04_twelveTasksAtMost() {
        String eleven = Edges.alike(5, 11, 1);
        faultIs(eleven, NONE);
        faultIs(eleven + "t1;", NONE);
        faultIs(eleven + "t1;t1;", eleven.length() + 3);
        faultIs(eleven + "t1;pab;t1;", eleven.length() + 7);
    }

    static void promise04_kindsOfItems() {
        for (int letter = 32; letter <= 126; letter++) {
            boolean pair = letter == 'p' || letter == 'x' || letter == 'j';
            faultIs("c5;t1;t1;" + (char) letter + "ab;", pair ? NONE : 9);
        }
    }

    static void promise04_bothToldAhead() {
        for (String kind : new String[] {"p", "x", "j"}) {
            faultIs("c5;" + kind + "ab;", 3);
            faultIs("c5;t1;" + kind + "ab;", 6);
            faultIs("c5;t1;" + kind + "ba;", 6);
            faultIs("c5;t1;" + kind + "ab;t1;", 6);
            faultIs("c5;t1;t1;" + kind + "ab;", NONE);
            faultIs("c5;t1;t1;" + kind + "ba;t1;", NONE);
            faultIs("c5;t1;t1;" + kind + "ac;", 9);
            faultIs("c5;t1;t1;" + kind + "ca;t1;", 9);
        }
    }

    static void promise04_theLastTaskOfTwelveAndNoLetterBehindIt() {
        String twelve = Edges.alike(5, 12, 1);
        for (String kind : new String[] {"p", "x", "j"}) {
            faultIs(twelve + kind + "al;", NONE);
            faultIs(twelve + kind + "la;", NONE);
            faultIs(twelve + kind + "am;", twelve.length());
            faultIs(twelve + kind + "ma;", twelve.length());
            faultIs(twelve + kind + "a`;", twelve.length());
            faultIs(twelve + kind + "`a;", twelve.length());
            faultIs(twelve + kind + "AL;", twelve.length());
            faultIs(twelve + kind + "a0;", twelve.length());
            faultIs(twelve + kind + "~ ;", twelve.length());
        }
    }

    static void promise04_justTwoLettersOfTasks() {
        for (String kind : new String[] {"p", "x", "j"}) {
            faultIs("c5;t1;t1;t1;" + kind + ";", 12);
            faultIs("c5;t1;t1;t1;" + kind + "a;", 12);
            faultIs("c5;t1;t1;t1;" + kind + "abc;", 12);
            faultIs("c5;t1;t1;t1;" + kind + "a b;", 12);
            faultIs("c5;t1;t1;t1;" + kind + "ab ;", 12);
        }
    }

    static void promise04_notAlike() {
        for (String kind : new String[] {"p", "x", "j"}) {
            faultIs("c5;t1;t1;" + kind + "aa;", 9);
            faultIs("c5;t1;t1;" + kind + "bb;", 9);
            faultIs(Edges.alike(5, 12, 1) + kind + "ll;", 39);
        }
    }

    static void promise04_anOrderNotToldAlready() {
        faultIs("c5;t1;t1;t1;pab;pab;", 16);
        faultIs("c5;t1;t1;t1;pab;pbc;pab;", 20);
        faultIs("c5;t1;t1;t1;pab;pbc;pac;", NONE);
    }

    static void promise04_ordersDoNotGoRound() {
        faultIs("c5;t1;t1;pab;pba;", 13);
        faultIs("c5;t1;t1;t1;pab;pbc;pca;", 20);
        faultIs("c5;t1;t1;t1;pbc;pab;pca;", 20);
        faultIs("c5;t1;t1;t1;pcb;pba;pac;", 20);
        String row = Edges.alike(5, 12, 1) + Edges.chain(12);
        faultIs(row + "pla;", row.length());
        faultIs(row + "pal;", NONE);
    }

    static void promise04_apartNotToldAlreadyInWhateverOrder() {
        faultIs("c5;t1;t1;xab;xab;", 13);
        faultIs("c5;t1;t1;xab;xba;", 13);
        faultIs("c5;t1;t1;xba;xab;", 13);
        faultIs("c5;t1;t1;t1;xab;xbc;xca;", NONE);
    }

    static void promise04_joinedNotToldAlreadyInWhateverOrder() {
        faultIs("c5;t1;t1;jab;jab;", 13);
        faultIs("c5;t1;t1;jab;jba;", 13);
        faultIs("c5;t1;t1;jba;jab;", 13);
        faultIs("c5;t1;t1;t1;jab;jbc;jca;", NONE);
    }

    static void promise04_notBothApartAndJoined() {
        faultIs("c5;t1;t1;xab;jab;", 13);
        faultIs("c5;t1;t1;xab;jba;", 13);
        faultIs("c5;t1;t1;jab;xab;", 13);
        faultIs("c5;t1;t1;jab;xba;", 13);
        faultIs("c5;t1;t1;t1;jab;jbc;xac;", NONE);
        faultIs("c5;t1;t1;t1;xab;jbc;jac;", NONE);
    }

    static void promise04_anOrderMayBeAPairToo() {
        faultIs("c5;t1;t1;pab;xab;", NONE);
        faultIs("c5;t1;t1;pab;jba;", NONE);
        faultIs("c5;t1;t1;xba;pab;", NONE);
        faultIs("c5;t1;t1;jab;pba;", NONE);
    }

    static void promise04_eachItemHasItsEnd() {
        faultIs("c", 0);
        faultIs("c5", 0);
        faultIs("c120", 0);
        faultIs("c5;t", 3);
        faultIs("c5;t1", 3);
        faultIs("c5;t1;t1;p", 9);
        faultIs("c5;t1;t1;pa", 9);
        faultIs("c5;t1;t1;pab", 9);
        faultIs("c5;;", 3);
        faultIs("c5;t1;;t1;", 6);
        faultIs("c5; ", 3);
        faultIs("c5; t1;", 3);
    }

    static void promise04_theFirstFaultOfSeveral() {
        faultIs("c0;t0;paa;", 0);
        faultIs("c5;t0;paa;", 3);
        faultIs("c5;t1;paa;t0;", 6);
    }

    static void promise04_aTextOfTwoHundred() {
        faultIs(twoHundred(), NONE);
        faultIs(twoHundred().substring(0, 199), 196);
        faultIs(twoHundred().substring(0, 199) + ",", 196);
        faultIs("c".repeat(200), 0);
        faultIs(";".repeat(200), 0);
    }

    static void promise04_theLastPlaceOfAll() {
        String shorter = twoHundred().replaceFirst("t10;", "t1;");
        faultIs(shorter, NONE);
        faultIs(shorter + ";", 199);
        faultIs(shorter + "t", 199);
    }

    static void promise04_askingLeavesAll() {
        Edges.refused("fault()", x -> x.fault(), NONE);
        Edges.leavesAll("fault()", () -> {
            BalancedLine x = Edges.busy();
            x.write('q');
            return x;
        }, x -> x.fault(), 13);
    }

    static void promise04_whatIsToldIsNoPartOfTheText() {
        BalancedLine x = new BalancedLine();
        Edges.type(x, "c5;pab;");
        due("tasks that are told otherwise", x.fault(), 3);
        BalancedLine y = Edges.laid("c5;t1;t1;pab;");
        y.wipe();
        Edges.type(y, "c5;t1;t1;pab;pba;");
        due("told anew, not twice", y.fault(), 13);
        due("asked again", y.fault(), 13);
    }

    // ---- 5: LAID: how many TASKS. NO.

    static void promise05_anEmptyTextIsNotLaid() {
        due("lay", new BalancedLine().lay(), NO);
    }

    static void promise05_withoutATaskItIsNotLaid() {
        BalancedLine x = Edges.typed("c20;");
        due("no fault", x.fault(), NONE);
        due("lay", x.lay(), NO);
        Edges.type(x, "t1;");
        due("lay with one", x.lay(), 1);
    }

    static void promise05_withAFaultItIsNotLaid() {
        due("the first item", Edges.typed("c0;t1;").lay(), NO);
        due("the last letter", Edges.typed("c5;t1;q").lay(), NO);
        due("no end", Edges.typed("c5;t1").lay(), NO);
    }

    static void promise05_oneTaskToTwelve() {
        for (int n = 1; n <= 12; n++) {
            BalancedLine x = Edges.typed(Edges.alike(120, n, 60));
            due("lay", x.lay(), n);
            due("tasks", x.count(0), n);
            due("the last one", x.task(n - 1, 0), 60);
            due("none behind it", x.task(n, 0), BAD);
            due("cycle", x.count(1), 120);
        }
        due("thirteen", Edges.typed(Edges.alike(120, 13, 60)).lay(), NO);
    }

    static void promise05_theLeastOfAll() {
        BalancedLine x = Edges.laid("c1;t1;");
        due("cycle", x.count(1), 1);
        due("time", x.task(0, 0), 1);
        due("fewest", x.fewest(), 1);
    }

    static void promise05_refusedLeavesAll() {
        for (String end : new String[] {"q", "t1", "pab;", "c7;", ";"}) {
            Edges.leavesAll("lay() of a text with " + end, () -> {
                BalancedLine x = Edges.busy();
                Edges.type(x, end);
                return x;
            }, x -> x.lay(), NO);
        }
        for (String text : new String[] {"", "c9;", "c121;t1;"}) {
            Edges.leavesAll("lay() of " + text, () -> {
                BalancedLine x = Edges.busy();
                x.wipe();
                Edges.type(x, text);
                return x;
            }, x -> x.lay(), NO);
        }
    }

    static void promise05_nothingIsPutTheTextStays() {
        BalancedLine x = Edges.busy();
        due("lay", x.lay(), 2);
        due("put", x.count(5), 0);
        due("stations", x.count(6), 0);
        due("where a", x.where(0), NONE);
        due("letters", x.count(9), 13);
        due("lay again", x.lay(), 2);
    }

    static void promise05_nothingIsPutWhateverWasAskedAhead() {
        for (Edges.Call asked : new Edges.Call[] {x -> x.by(20), x -> x.were(0, 5), x -> x.shortest(2), x -> x.binds(-1),
            x -> x.left(), x -> x.fault()}) {
            BalancedLine x = Edges.busy();
            asked.on(x);
            due("lay", x.lay(), 2);
            due("put", x.count(5), 0);
            due("left", x.left(), 1);
        }
    }

    static void promise05_layingCannotBeUndone() {
        BalancedLine x = Edges.busy();
        x.lay();
        due("changes", x.count(8), 0);
        due("undo", x.undo(), NO);
        due("cycle", x.count(1), 7);
        x.cycle(8);
        due("only what was behind it", x.undo(), 0);
        due("undo once more", x.undo(), NO);
        due("cycle", x.count(1), 7);
    }

    static void promise05_laidAgainAllIsAsTheTextTells() {
        BalancedLine x = Edges.laid(AT_FIRST);
        x.cycle(120);
        x.time(8, 60);
        x.order(0, 8, 1);
        x.zone(0, 1, 2);
        x.put(8, 12);
        due("lay", x.lay(), 9);
        Edges.same("laid again", x, Edges.laid(AT_FIRST));
    }

    static void promise05_fewerTasksThanThere() {
        BalancedLine x = Edges.laid(Edges.alike(9, 12, 3) + "pkl;xkl;jij;");
        x.put(11, 12);
        x.wipe();
        Edges.type(x, "c9;t3;");
        due("lay", x.lay(), 1);
        due("orders", x.count(2), 0);
        due("apart", x.count(3), 0);
        due("joined", x.count(4), 0);
        due("times", x.count(7), 3);
        due("station 12", x.station(12, 0), 0);
        due("l is none", x.where(11), BAD);
        due("b is none", x.put(1, 1), BAD);
    }

    // ---- 6: The CYCLE is told anew: what it was. BAD; NO: it is so.

    static void promise06_theLowest() {
        BalancedLine x = new BalancedLine();
        due("0", x.cycle(0), BAD);
        due("1", x.cycle(1), 20);
        due("told", x.count(1), 1);
    }

    static void promise06_theHighest() {
        BalancedLine x = new BalancedLine();
        due("121", x.cycle(121), BAD);
        due("120", x.cycle(120), 20);
        due("told", x.count(1), 120);
    }

    static void promise06_itIsSo() {
        BalancedLine x = new BalancedLine();
        due("as at first", x.cycle(20), NO);
        due("21", x.cycle(21), 20);
        due("21 again", x.cycle(21), NO);
        due("20 again", x.cycle(20), 21);
        due("changes", x.count(8), 2);
    }

    static void promise06_refusedLeavesAll() {
        Edges.refused("cycle(0)", x -> x.cycle(0), BAD);
        Edges.refused("cycle(121)", x -> x.cycle(121), BAD);
        Edges.refused("cycle(-12)", x -> x.cycle(-12), BAD);
        Edges.refused("cycle(12)", x -> x.cycle(12), NO);
        for (int far : Edges.FAR) {
            Edges.refused("cycle(" + far + ")", x -> x.cycle(far), BAD);
        }
    }

    static void promise06_justTheCycleStaysPut() {
        BalancedLine x = Edges.laid("c10;t3;t3;t2;");
        x.put(0, 12);
        x.put(1, 12);
        x.put(2, 12);
        due("8", x.cycle(8), 10);
        due("all stay", x.station(12, 0), 7);
        due("7", x.cycle(7), 8);
        due("the lowest is off", x.station(12, 0), 6);
        due("1", x.cycle(1), 7);
        due("all are off", x.count(5), 0);
        due("undo", x.undo(), 5);
        due("two as ahead", x.station(12, 0), 6);
        due("undo", x.undo(), 4);
        due("three as ahead", x.station(12, 0), 7);
    }

    static void promise06_whatIsOffStaysOff() {
        BalancedLine x = Edges.laid("c10;t6;t4;");
        x.put(0, 1);
        x.put(1, 1);
        x.cycle(9);
        due("a is off", x.where(0), NONE);
        x.cycle(10);
        due("a stays off", x.where(0), NONE);
        due("b stays put", x.where(1), 1);
    }

    // ---- 7: A TIME is told anew: what it was. BAD; NO: it is so.

    static void promise07_theFirstTaskAndTheLast() {
        BalancedLine x = new BalancedLine();
        due("no task ahead of a", x.time(-1, 5), BAD);
        due("a", x.time(0, 5), 6);
        due("i", x.time(8, 5), 10);
        due("no task j", x.time(9, 5), BAD);
    }

    static void promise07_theLowest() {
        BalancedLine x = new BalancedLine();
        due("0", x.time(0, 0), BAD);
        due("1", x.time(0, 1), 6);
        due("told", x.task(0, 0), 1);
    }

    static void promise07_theHighest() {
        BalancedLine x = new BalancedLine();
        due("61", x.time(0, 61), BAD);
        due("60", x.time(0, 60), 6);
        due("told", x.task(0, 0), 60);
    }

    static void promise07_itIsSo() {
        BalancedLine x = new BalancedLine();
        due("as at first", x.time(0, 6), NO);
        due("7", x.time(0, 7), 6);
        due("7 again", x.time(0, 7), NO);
        due("changes", x.count(8), 1);
    }

    static void promise07_refusedLeavesAll() {
        Edges.refused("time(-1, 5)", x -> x.time(-1, 5), BAD);
        Edges.refused("time(5, 5)", x -> x.time(5, 5), BAD);
        Edges.refused("time(0, 0)", x -> x.time(0, 0), BAD);
        Edges.refused("time(0, 61)", x -> x.time(0, 61), BAD);
        Edges.refused("time(4, 3)", x -> x.time(4, 3), NO);
        Edges.refused("time(0, 4)", x -> x.time(0, 4), NO);
        for (int far : Edges.FAR) {
            Edges.refused("time(" + far + ", 5)", x -> x.time(far, 5), BAD);
            Edges.refused("time(0, " + far + ")", x -> x.time(0, far), BAD);
        }
    }

    static void promise07_justTheCycleStaysPut() {
        BalancedLine x = Edges.laid("c10;t3;t3;t2;");
        x.put(0, 1);
        x.put(1, 1);
        x.put(2, 1);
        due("4", x.time(2, 4), 2);
        due("all stay", x.station(1, 0), 7);
        due("5", x.time(2, 5), 4);
        due("the lowest is off, not the one that is told", x.station(1, 0), 6);
        due("11", x.time(2, 11), 5);
        due("b is off first, then c itself", x.station(1, 0), 0);
    }

    static void promise07_onlyItsOwnStation() {
        BalancedLine x = Edges.laid("c10;t5;t5;t5;t5;");
        x.put(0, 1);
        x.put(1, 1);
        x.put(2, 2);
        x.put(3, 2);
        x.time(3, 6);
        due("station 1", x.station(1, 0), 3);
        due("station 2", x.station(2, 0), 8);
    }

    // ---- 8: An ORDER: how many there are. BAD (alike ones, too); NO: it is so, or ORDERS would go round.

    static void promise08_theFirstTaskAndTheLast() {
        BalancedLine x = Edges.laid(Edges.alike(9, 12, 1));
        due("-1 ahead", x.order(-1, 0, 1), BAD);
        due("-1 behind", x.order(0, -1, 1), BAD);
        due("12 ahead", x.order(12, 0, 1), BAD);
        due("12 behind", x.order(0, 12, 1), BAD);
        due("a ahead of l", x.order(0, 11, 1), 1);
        due("l behind a", x.task(11, 1), 1);
        due("a not ahead of l", x.order(0, 11, 0), 0);
        due("l ahead of a", x.order(11, 0, 1), 1);
        due("a behind l", x.task(0, 1), 2048);
    }

    static void promise08_isNoughtOrOne() {
        BalancedLine x = new BalancedLine();
        due("-1", x.order(0, 1, -1), BAD);
        due("2", x.order(0, 1, 2), BAD);
        due("1", x.order(0, 1, 1), 9);
        due("2 where there is one", x.order(0, 1, 2), BAD);
        due("-1 where there is one", x.order(0, 1, -1), BAD);
        due("0", x.order(0, 1, 0), 8);
    }

    static void promise08_alikeOnesAreBad() {
        BalancedLine x = new BalancedLine();
        for (int t = 0; t < 9; t++) {
            due("more", x.order(t, t, 1), BAD);
            due("fewer", x.order(t, t, 0), BAD);
        }
    }

    static void promise08_itIsSo() {
        BalancedLine x = new BalancedLine();
        due("c is behind a", x.order(0, 2, 1), NO);
        due("a is not behind c", x.order(2, 0, 0), NO);
        due("b is not behind a", x.order(0, 1, 0), NO);
        due("f is behind a by others alone", x.order(0, 5, 0), NO);
        due("fewer", x.order(0, 2, 0), 7);
        due("fewer again", x.order(0, 2, 0), NO);
        due("more", x.order(0, 2, 1), 8);
        due("more again", x.order(0, 2, 1), NO);
    }

    static void promise08_ordersDoNotGoRound() {
        BalancedLine x = Edges.laid(Edges.alike(9, 12, 1) + Edges.chain(12));
        due("straight", x.order(1, 0, 1), NO);
        due("by one", x.order(2, 0, 1), NO);
        due("by ten", x.order(11, 0, 1), NO);
        due("orders", x.count(2), 11);
        due("one less", x.order(5, 6, 0), 10);
        due("now they may", x.order(11, 0, 1), 11);
        due("now this one would go round", x.order(5, 6, 1), NO);
    }

    static void promise08_noneToAll() {
        BalancedLine x = Edges.laid(Edges.alike(9, 12, 1));
        int many = 0;
        for (int a = 0; a < 12; a++) {
            for (int b = a + 1; b < 12; b++) {
                many++;
                due("one more", x.order(a, b, 1), many);
            }
        }
        due("all", x.count(2), 66);
        due("no more", x.order(11, 0, 1), NO);
        due("nor again", x.order(0, 11, 1), NO);
        for (int a = 0; a < 12; a++) {
            for (int b = a + 1; b < 12; b++) {
                many--;
                due("one fewer", x.order(a, b, 0), many);
            }
        }
        due("none", x.count(2), 0);
    }

    static void promise08_badAheadOfNo() {
        BalancedLine x = new BalancedLine();
        due("it is so, by a wrong number", x.order(0, 2, 2), BAD);
        due("round, by a wrong number", x.order(2, 0, 2), BAD);
        due("alike, by 0, which is so", x.order(4, 4, 0), BAD);
    }

    static void promise08_refusedLeavesAll() {
        Edges.refused("order(0, 0, 1)", x -> x.order(0, 0, 1), BAD);
        Edges.refused("order(0, 0, 0)", x -> x.order(0, 0, 0), BAD);
        Edges.refused("order(-1, 0, 1)", x -> x.order(-1, 0, 1), BAD);
        Edges.refused("order(0, -1, 1)", x -> x.order(0, -1, 1), BAD);
        Edges.refused("order(5, 0, 1)", x -> x.order(5, 0, 1), BAD);
        Edges.refused("order(0, 5, 1)", x -> x.order(0, 5, 1), BAD);
        Edges.refused("order(0, 1, 2)", x -> x.order(0, 1, 2), BAD);
        Edges.refused("order(0, 1, -1)", x -> x.order(0, 1, -1), BAD);
        Edges.refused("order(0, 1, 1)", x -> x.order(0, 1, 1), NO);
        Edges.refused("order(1, 2, 0)", x -> x.order(1, 2, 0), NO);
        Edges.refused("order(1, 0, 1)", x -> x.order(1, 0, 1), NO);
        Edges.refused("order(3, 0, 1)", x -> x.order(3, 0, 1), NO);
        for (int far : Edges.FAR) {
            Edges.refused("order(" + far + ", 0, 1)", x -> x.order(far, 0, 1), BAD);
            Edges.refused("order(0, " + far + ", 1)", x -> x.order(0, far, 1), BAD);
            Edges.refused("order(0, 2, " + far + ")", x -> x.order(0, 2, far), BAD);
            Edges.refused("order of two alike " + far, x -> x.order(far, far, 1), BAD);
        }
    }

    static void promise08_inOneStationBothStayPut() {
        BalancedLine x = Edges.laid("c9;t1;t1;t1;");
        x.put(0, 4);
        x.put(1, 4);
        x.put(2, 5);
        due("in one", x.order(0, 1, 1), 1);
        due("one later", x.order(1, 2, 1), 2);
        due("all stay", x.count(5), 3);
        x.order(1, 2, 0);
        due("one fewer takes none off", x.count(5), 3);
        due("one earlier", x.order(2, 1, 1), 2);
        due("the lower one is off", x.where(1), NONE);
        due("the higher one stays", x.where(2), 5);
        due("a, which is not concerned, stays", x.where(0), 4);
    }

    static void promise08_theLowerOneIsOffAheadOrBehind() {
        BalancedLine x = Edges.laid("c9;t1;t1;");
        x.put(0, 2);
        x.put(1, 1);
        x.order(0, 1, 1);
        due("a, ahead, is off", x.where(0), NONE);
        due("b stays", x.where(1), 1);
        x.undo();
        due("a as it was", x.where(0), 2);
        x.put(1, 3);
        x.order(1, 0, 1);
        due("a, behind, is off", x.where(0), NONE);
        due("b stays", x.where(1), 3);
    }

    static void promise08_byOthersTakesNoneOff() {
        BalancedLine x = Edges.laid("c9;t1;t1;t1;pab;");
        x.put(0, 5);
        x.put(2, 4);
        due("c behind b", x.order(1, 2, 1), 2);
        due("a stays", x.where(0), 5);
        due("c stays", x.where(2), 4);
    }

    // ---- 9: APART (1), JOINED (2), neither (0): which they were. BAD (alike ones, too); NO: they are so.

    static void promise09_theFirstTaskAndTheLast() {
        BalancedLine x = Edges.laid(Edges.alike(9, 12, 1));
        due("-1", x.zone(-1, 0, 1), BAD);
        due("-1 behind", x.zone(0, -1, 1), BAD);
        due("12", x.zone(12, 0, 1), BAD);
        due("12 behind", x.zone(0, 12, 1), BAD);
        due("a and l", x.zone(0, 11, 1), 0);
        due("a from l", x.task(0, 4), 2048);
        due("l from a", x.task(11, 4), 1);
        due("l and a", x.zone(11, 0, 2), 1);
        due("a with l", x.task(0, 5), 2048);
        due("l with a", x.task(11, 5), 1);
    }

    static void promise09_howNoughtToTwo() {
        BalancedLine x = new BalancedLine();
        due("-1", x.zone(3, 4, -1), BAD);
        due("3", x.zone(3, 4, 3), BAD);
        due("2", x.zone(3, 4, 2), 0);
        due("1", x.zone(3, 4, 1), 2);
        due("0", x.zone(3, 4, 0), 1);
    }

    static void promise09_alikeOnesAreBad() {
        BalancedLine x = new BalancedLine();
        for (int t = 0; t < 9; t++) {
            for (int how = 0; how <= 2; how++) {
                due("alike", x.zone(t, t, how), BAD);
            }
        }
    }

    static void promise09_theyAreSoInWhateverOrder() {
        BalancedLine x = new BalancedLine();
        due("a b apart", x.zone(0, 1, 1), NO);
        due("b a apart", x.zone(1, 0, 1), NO);
        due("c f joined", x.zone(2, 5, 2), NO);
        due("f c joined", x.zone(5, 2, 2), NO);
        due("d e neither", x.zone(3, 4, 0), NO);
        due("e d neither", x.zone(4, 3, 0), NO);
        due("b a neither now", x.zone(1, 0, 0), 1);
        due("a b neither", x.zone(0, 1, 0), NO);
    }

    static void promise09_neverBothApartAndJoined() {
        BalancedLine x = new BalancedLine();
        due("joined now", x.zone(0, 1, 2), 1);
        due("apart", x.count(3), 0);
        due("joined", x.count(4), 2);
        due("apart again", x.zone(1, 0, 1), 2);
        due("apart", x.count(3), 1);
        due("joined", x.count(4), 1);
    }

    static void promise09_noneToAll() {
        for (int how = 1; how <= 2; how++) {
            BalancedLine x = Edges.laid(Edges.alike(12, 12, 1));
            for (int a = 0; a < 12; a++) {
                for (int b = a + 1; b < 12; b++) {
                    due("one more", x.zone(a, b, how), 0);
                }
            }
            due("all", x.count(2 + how), 66);
            due("fewest", x.fewest(), how == 1 ? 12 : 1);
            due("once more", x.zone(0, 11, how), NO);
        }
    }

    static void promise09_refusedLeavesAll() {
        Edges.refused("zone(0, 0, 1)", x -> x.zone(0, 0, 1), BAD);
        Edges.refused("zone(4, 4, 0)", x -> x.zone(4, 4, 0), BAD);
        Edges.refused("zone(-1, 0, 1)", x -> x.zone(-1, 0, 1), BAD);
        Edges.refused("zone(0, -1, 1)", x -> x.zone(0, -1, 1), BAD);
        Edges.refused("zone(5, 0, 1)", x -> x.zone(5, 0, 1), BAD);
        Edges.refused("zone(0, 5, 1)", x -> x.zone(0, 5, 1), BAD);
        Edges.refused("zone(0, 1, 3)", x -> x.zone(0, 1, 3), BAD);
        Edges.refused("zone(0, 1, -1)", x -> x.zone(0, 1, -1), BAD);
        Edges.refused("zone(3, 0, 1)", x -> x.zone(3, 0, 1), NO);
        Edges.refused("zone(4, 2, 2)", x -> x.zone(4, 2, 2), NO);
        Edges.refused("zone(0, 1, 0)", x -> x.zone(0, 1, 0), NO);
        for (int far : Edges.FAR) {
            Edges.refused("zone(" + far + ", 0, 1)", x -> x.zone(far, 0, 1), BAD);
            Edges.refused("zone(0, " + far + ", 1)", x -> x.zone(0, far, 1), BAD);
            Edges.refused("zone(0, 2, " + far + ")", x -> x.zone(0, 2, far), BAD);
            Edges.refused("zone of two alike " + far, x -> x.zone(far, far, 1), BAD);
        }
    }

    static void promise09_whoIsTakenOff() {
        BalancedLine x = Edges.laid("c9;t1;t1;t1;");
        x.put(0, 1);
        x.put(1, 1);
        x.put(2, 2);
        due("joined there", x.zone(0, 1, 2), 0);
        due("apart elsewhere", x.zone(1, 2, 1), 0);
        due("all stay", x.count(5), 3);
        due("apart there", x.zone(0, 1, 1), 2);
        due("the lower one is off", x.where(0), NONE);
        due("the higher one stays", x.where(1), 1);
        due("joined elsewhere", x.zone(1, 2, 2), 1);
        due("the lower one is off", x.where(1), NONE);
        due("the higher one stays", x.where(2), 2);
        due("neither", x.zone(2, 1, 0), 2);
        due("a pair less takes none off", x.where(2), 2);
        due("and puts none", x.count(5), 1);
    }

    static void promise09_lowestFirstAgainAndAgain() {
        BalancedLine x = Edges.laid("c9;t1;t1;t1;t1;");
        x.put(0, 1);
        x.put(1, 1);
        x.put(2, 2);
        x.zone(1, 2, 2);
        due("b is off for the sake of c", x.where(1), NONE);
        due("a stays", x.where(0), 1);
        due("c stays", x.where(2), 2);
        BalancedLine y = Edges.laid("c9;t3;t3;t3;t9;");
        y.put(0, 1);
        y.put(1, 1);
        y.put(2, 1);
        y.time(0, 4);
        due("a is off, which is enough", y.station(1, 0), 6);
    }

    // ---- 10: UNDONE: how many more can be. NO.

    static void promise10_nothingYet() {
        BalancedLine x = new BalancedLine();
        due("undo", x.undo(), NO);
        due("undo again", x.undo(), NO);
        Edges.leavesAll("undo()", BalancedLine::new, y -> y.undo(), NO);
    }

    static void promise10_oneToSix() {
        for (int n = 1; n <= 6; n++) {
            BalancedLine x = new BalancedLine();
            for (int c = 1; c <= n; c++) {
                x.cycle(20 + c);
                due("changes", x.count(8), c);
            }
            for (int left = n - 1; left >= 0; left--) {
                due("undo", x.undo(), left);
                due("cycle", x.count(1), 20 + left);
            }
            due("no more", x.undo(), NO);
            due("as at first", x.count(1), 20);
        }
    }

    static void promise10_theSeventhIsOneTooMany() {
        BalancedLine x = new BalancedLine();
        for (int c = 1; c <= 7; c++) {
            x.cycle(20 + c);
        }
        due("changes", x.count(8), 6);
        for (int left = 5; left >= 0; left--) {
            due("undo", x.undo(), left);
            due("cycle", x.count(1), 21 + left);
        }
        due("the oldest cannot be", x.undo(), NO);
        due("cycle", x.count(1), 21);
    }

    static void promise10_manyTimesRound() {
        BalancedLine x = new BalancedLine();
        for (int round = 0; round < 20; round++) {
            for (int c = 30; c < 39; c++) {
                x.cycle(c);
            }
            due("changes", x.count(8), 6);
            for (int i = 0; i < round % 6; i++) {
                x.undo();
                due("cycle", x.count(1), 37 - i);
            }
        }
    }

    static void promise10_anUndoneOneIsNoChange() {
        BalancedLine x = new BalancedLine();
        x.cycle(21);
        x.cycle(22);
        due("undo", x.undo(), 1);
        due("undo does not undo the undone", x.undo(), 0);
        due("cycle", x.count(1), 20);
        due("undo", x.undo(), NO);
        x.cycle(23);
        due("changes", x.count(8), 1);
        due("undo", x.undo(), 0);
        due("cycle", x.count(1), 20);
    }

    static void promise10_eachKindOfChange() {
        for (Edges.Call change : new Edges.Call[] {x -> x.cycle(13), x -> x.time(0, 5), x -> x.order(0, 2, 1), x -> x.order(0, 1, 0),
            x -> x.zone(0, 4, 1), x -> x.zone(0, 4, 2), x -> x.zone(0, 3, 0), x -> x.zone(2, 4, 1), x -> x.put(2, 12),
            x -> x.put(0, 2), x -> x.put(1, 2), x -> x.off(4), x -> x.adopt()}) {
            BalancedLine x = threeChanges();
            Edges.check(change.on(x) >= 0, "it is not refused");
            due("changes", x.count(8), 4);
            due("undo", x.undo(), 3);
            Edges.same("a change undone", x, threeChanges());
        }
    }

    static BalancedLine threeChanges() {
        BalancedLine x = Edges.laid("c11;t4;t5;t3;t6;t2;pab;xad;jce;");
        x.put(4, 12);
        x.cycle(12);
        x.put(0, 1);
        return x;
    }

    static void promise10_whatWasTakenOffIsPutAsAhead() {
        BalancedLine x = Edges.laid("c10;t5;t5;t4;");
        x.put(0, 3);
        x.put(1, 3);
        x.put(2, 4);
        x.cycle(3);
        due("all are off", x.count(5), 0);
        due("one change", x.count(8), 4);
        due("undo", x.undo(), 3);
        due("station 3", x.station(3, 0), 3);
        due("station 4", x.station(4, 0), 4);
        due("undo a put", x.undo(), 2);
        due("c is not put", x.where(2), NONE);
    }

    static void promise10_aPutInPlaceOfAnother() {
        BalancedLine x = new BalancedLine();
        x.put(0, 2);
        x.put(0, 7);
        due("undo", x.undo(), 1);
        due("where it was", x.where(0), 2);
        due("undo", x.undo(), 0);
        due("nowhere", x.where(0), NONE);
    }

    static void promise10_anAdoptByWhichNothingBecomesAnother() {
        BalancedLine x = new BalancedLine();
        x.adopt();
        x.adopt();
        due("changes", x.count(8), 2);
        due("undo", x.undo(), 1);
        due("all are put", x.count(5), 9);
        due("undo", x.undo(), 0);
        due("none is put", x.count(5), 0);
        due("undo", x.undo(), NO);
        for (int i = 0; i < 7; i++) {
            x.adopt();
        }
        due("six at most", x.count(8), 6);
        for (int i = 0; i < 6; i++) {
            x.undo();
        }
        due("the first is lost: all are still put", x.count(5), 9);
    }

    static void promise10_laidNone() {
        BalancedLine x = Edges.busy();
        x.lay();
        due("undo", x.undo(), NO);
        due("tasks", x.count(0), 2);
        BalancedLine y = Edges.busy();
        y.write('q');
        due("not laid", y.lay(), NO);
        due("then it can be", y.undo(), 5);
    }

    static void promise10_theTextIsNotUndone() {
        BalancedLine x = Edges.busy();
        x.wipe();
        due("undo", x.undo(), 5);
        due("letters", x.count(9), 0);
    }

    static void promise10_refusedCallsAreNoChange() {
        BalancedLine x = new BalancedLine();
        x.cycle(20);
        x.cycle(0);
        x.time(0, 6);
        x.time(9, 1);
        x.order(2, 0, 1);
        x.order(0, 0, 1);
        x.zone(0, 1, 1);
        x.zone(0, 1, 3);
        x.put(0, 0);
        x.off(0);
        x.off(9);
        x.lay();
        due("changes", x.count(8), 0);
        due("undo", x.undo(), NO);
        x.cycle(10);
        due("no line to adopt", x.adopt(), NONE);
        due("changes", x.count(8), 1);
    }

    static void promise10_whatIsAskedIsToldAsAhead() {
        BalancedLine x = Edges.laid("c10;t5;t5;t5;t5;");
        due("fewest", x.fewest(), 2);
        due("many", x.many(), 6);
        due("full", x.full(-1), 6);
        x.cycle(5);
        due("fewest then", x.fewest(), 4);
        due("many then", x.many(), 24);
        due("full then", x.full(-1), 4);
        x.undo();
        due("fewest undone", x.fewest(), 2);
        due("many undone", x.many(), 6);
        due("full undone", x.full(-1), 6);
        due("left undone", x.left(), 2);
        due("best undone", x.best(3), 2);
        due("may undone", x.may(3), 6);
        due("binds undone", x.binds(-1), 0);
        due("floor undone", x.floor(0), 2);
    }

    // ---- 11: Of a TASK. BAD.

    static void promise11_theFirstTaskAndTheLast() {
        BalancedLine x = Edges.laid(Edges.alike(9, 11, 1) + "t2;");
        for (int what = 0; what <= 5; what++) {
            due("-1", x.task(-1, what), BAD);
            due("12", x.task(12, what), BAD);
        }
        due("a", x.task(0, 0), 1);
        due("l", x.task(11, 0), 2);
        BalancedLine y = Edges.laid("c1;t60;");
        due("the only one", y.task(0, 0), 60);
        due("no other", y.task(1, 0), BAD);
    }

    static void promise11_whatNoughtToFive() {
        BalancedLine x = new BalancedLine();
        due("-1", x.task(0, -1), BAD);
        due("0", x.task(0, 0), 6);
        due("5", x.task(0, 5), 0);
        due("6", x.task(0, 6), BAD);
    }

    static void promise11_numbersFarOff() {
        for (int far : Edges.FAR) {
            Edges.refused("task(" + far + ", 0)", x -> x.task(far, 0), BAD);
            Edges.refused("task(0, " + far + ")", x -> x.task(0, far), BAD);
        }
    }

    static void promise11_noneIsNought() {
        BalancedLine x = Edges.laid(Edges.alike(9, 12, 1));
        for (int t = 0; t < 12; t++) {
            for (int what = 1; what <= 5; what++) {
                due("none", x.task(t, what), 0);
            }
        }
    }

    static void promise11_allOfThem() {
        BalancedLine x = Edges.laid(Edges.alike(60, 12, 1));
        for (int a = 0; a < 12; a++) {
            for (int b = a + 1; b < 12; b++) {
                x.order(a, b, 1);
                x.zone(a, b, a == 0 ? 1 : 2);
            }
        }
        due("l is behind all others", x.task(11, 1), 2047);
        due("a is behind none", x.task(0, 1), 0);
        due("all others are behind a", x.task(0, 2), 4094);
        due("none is behind l", x.task(11, 2), 0);
        due("by others", x.task(0, 3), 4094);
        due("none by others", x.task(11, 3), 0);
        due("apart from a", x.task(0, 4), 4094);
        due("apart from l", x.task(11, 4), 1);
        due("joined with a", x.task(0, 5), 0);
        due("joined with l", x.task(11, 5), 2046);
    }

    static void promise11_straightAndByOthers() {
        BalancedLine x = Edges.laid(Edges.alike(60, 12, 1) + Edges.chain(12));
        for (int t = 0; t < 12; t++) {
            due("behind it straight", x.task(t, 2), t < 11 ? 1 << t + 1 : 0);
            due("behind it by others", x.task(t, 3), 4095 & -2 << t);
            due("it is behind", x.task(t, 1), t > 0 ? 1 << t - 1 : 0);
        }
        BalancedLine y = Edges.laid(Edges.alike(60, 12, 1) + "plk;pkj;pji;pih;phg;pgf;pfe;ped;pdc;pcb;pba;");
        for (int t = 0; t < 12; t++) {
            due("the other way straight", y.task(t, 2), t > 0 ? 1 << t - 1 : 0);
            due("the other way by others", y.task(t, 3), (1 << t) - 1);
        }
    }

    static void promise11_notItselfAndNotByPairs() {
        BalancedLine x = Edges.laid("c9;t1;t1;t1;jab;jbc;xac;");
        due("joined straight alone", x.task(0, 5), 2);
        due("joined with both", x.task(1, 5), 5);
        due("apart straight alone", x.task(0, 4), 4);
        due("none behind by joined ones", x.task(0, 3), 0);
    }

    static void promise11_asItStandsThen() {
        BalancedLine x = new BalancedLine();
        x.order(0, 2, 0);
        due("a less", x.task(0, 2), 0);
        due("by others less", x.task(0, 3), 0);
        due("c less", x.task(2, 1), 0);
        x.undo();
        due("a as ahead", x.task(0, 2), 4);
        due("by others as ahead", x.task(0, 3), 356);
    }
}
