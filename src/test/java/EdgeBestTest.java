/** The edges that the document names for floors, loads and the best: promises 19 to 30. */
public final class EdgeBestTest {
    static final int BAD = Edges.BAD, NO = Edges.NO, NONE = Edges.NONE;

    public static void main(String[] args) throws ReflectiveOperationException {
        Edges.run(EdgeBestTest.class, 19, 30);
    }

    static void due(String what, int got, int want) {
        Edges.due(what, got, want);
    }

    // ---- 19: A FLOOR (0 to 2). BAD.

    static void promise19_whichNoughtToTwo() {
        BalancedLine x = new BalancedLine();
        due("-1", x.floor(-1), BAD);
        due("0", x.floor(0), 4);
        due("1", x.floor(1), 2);
        due("2", x.floor(2), 4);
        due("3", x.floor(3), BAD);
    }

    static void promise19_askingLeavesAll() {
        Edges.refused("floor(0)", x -> x.floor(0), 2);
        Edges.refused("floor(-1)", x -> x.floor(-1), BAD);
        Edges.refused("floor(3)", x -> x.floor(3), BAD);
        for (int far : Edges.FAR) {
            Edges.refused("floor(" + far + ")", x -> x.floor(far), BAD);
        }
    }

    static void promise19_allTimesRoundedUp() {
        due("just one cycle", Edges.laid("c10;t5;t5;").floor(0), 1);
        due("one more", Edges.laid("c10;t5;t6;").floor(0), 2);
        due("one less than two", Edges.laid("c10;t5;t5;t9;").floor(0), 2);
        due("just two", Edges.laid("c10;t5;t5;t10;").floor(0), 2);
        due("one more than two", Edges.laid("c10;t5;t5;t11;").floor(0), 3);
        due("the least", Edges.laid("c120;t1;").floor(0), 1);
        due("the greatest", Edges.laid(Edges.alike(1, 12, 60)).floor(0), 720);
        due("the longest by the longest", Edges.laid(Edges.alike(120, 12, 60)).floor(0), 6);
        due("one less of a cycle", Edges.laid(Edges.alike(119, 12, 60)).floor(0), 7);
    }

    static void promise19_moreThanHalfAndJustHalf() {
        due("less than half", Edges.laid("c10;t4;").floor(1), 0);
        due("just half", Edges.laid("c10;t5;").floor(1), 1);
        due("more than half", Edges.laid("c10;t6;").floor(1), 1);
        due("less than half of an odd one", Edges.laid("c11;t5;t5;").floor(1), 0);
        due("more than half of an odd one", Edges.laid("c11;t6;t6;").floor(1), 2);
        due("all of one", Edges.laid("c1;t1;t1;").floor(1), 2);
        due("half of two", Edges.laid("c2;t1;t1;").floor(1), 1);
        due("less than half of three", Edges.laid("c3;t1;t1;").floor(1), 0);
        due("half of 120", Edges.laid(Edges.alike(120, 12, 60)).floor(1), 6);
        due("more than half of 119", Edges.laid(Edges.alike(119, 12, 60)).floor(1), 12);
        due("more than the cycle", Edges.laid("c1;t60;").floor(1), 1);
    }

    static void promise19_halvesRoundedUp() {
        for (int n = 1; n <= 12; n++) {
            due(n + " halves", Edges.laid(Edges.alike(10, n, 5)).floor(1), (n + 1) / 2);
        }
        due("one more and one half", Edges.laid("c10;t6;t5;").floor(1), 2);
        due("one more and two halves", Edges.laid("c10;t6;t5;t5;").floor(1), 2);
        due("one more and three halves", Edges.laid("c10;t6;t5;t5;t5;").floor(1), 3);
        due("none", Edges.laid(Edges.alike(120, 12, 1)).floor(1), 0);
    }

    static void promise19_aTaskAndAllThatItIsBehind() {
        due("alone, just the cycle", Edges.laid("c10;t10;").floor(2), 1);
        due("alone, one more", Edges.laid("c10;t11;").floor(2), 2);
        due("without orders the longest", Edges.laid("c10;t9;t10;t3;").floor(2), 1);
        due("two, just the cycle", Edges.laid("c10;t5;t5;t9;pab;").floor(2), 1);
        due("two, one more", Edges.laid("c10;t5;t6;t9;pab;").floor(2), 2);
        due("by others", Edges.laid("c10;t5;t5;t1;pab;pbc;").floor(2), 2);
        due("each but once", Edges.laid("c10;t5;t5;t5;t5;pab;pac;pbd;pcd;").floor(2), 2);
        due("ahead, not behind", Edges.laid("c10;t5;t6;t6;pab;pac;").floor(2), 2);
        due("both ahead", Edges.laid("c10;t5;t6;t6;pba;pca;").floor(2), 2);
        due("both ahead, one more", Edges.laid("c10;t9;t6;t6;pba;pca;").floor(2), 3);
        due("by a", Edges.laid("c10;t5;t5;t5;pba;pac;").floor(2), 2);
        due("by c", Edges.laid("c10;t5;t5;t5;pac;pcb;").floor(2), 2);
        due("all in a row", Edges.laid(Edges.alike(1, 12, 60) + Edges.chain(12)).floor(2), 720);
        due("all in a row, the other way", Edges.laid(Edges.alike(1, 12, 60)
            + "plk;pkj;pji;pih;phg;pgf;pfe;ped;pdc;pcb;pba;").floor(2), 720);
        due("the least", Edges.laid("c120;t1;").floor(2), 1);
    }

    static void promise19_toldAsItStands() {
        for (int which = 0; which <= 2; which++) {
            int asked = which;
            Edges.toldAsItStands(x -> x.floor(asked));
        }
    }

    // ---- 20: LOADS: how many (i = -1), the i-th by its bits, the least first. BAD (below -1); NONE: not so many.

    static void loadsAre(String text, int... want) {
        BalancedLine x = Edges.laid(text);
        due("loads of " + text, x.load(-1), want.length);
        for (int i = 0; i < want.length; i++) {
            due("load " + i + " of " + text, x.load(i), want[i]);
        }
        due("no more of " + text, x.load(want.length), NONE);
        due("below", x.load(-2), BAD);
    }

    static void promise20_belowMinusOneAndNotSoMany() {
        BalancedLine x = new BalancedLine();
        due("-2", x.load(-2), BAD);
        due("-1", x.load(-1), 4);
        due("the first", x.load(0), 1);
        due("the last", x.load(3), 37);
        due("one more", x.load(4), NONE);
        for (int far : Edges.FAR) {
            due("load " + far, x.load(far), far < 0 ? BAD : NONE);
        }
    }

    static void promise20_noneAtAll() {
        loadsAre("c5;t6;");
        loadsAre("c9;t1;t1;t1;jab;jbc;xac;");
        loadsAre("c5;t3;t3;jab;");
    }

    static void promise20_notEmpty() {
        loadsAre("c5;t5;", 1);
        loadsAre("c5;t3;t3;", 1, 2);
    }

    static void promise20_justTheCycle() {
        loadsAre("c10;t4;t6;t7;", 1, 2, 3, 4);
        loadsAre("c120;t60;t60;t1;", 1, 2, 3, 4, 5, 6);
    }

    static void promise20_withEachAllThatItIsBehind() {
        loadsAre("c9;t1;t1;pab;", 1, 3);
        loadsAre("c9;t1;t1;pba;", 2, 3);
        loadsAre("c9;t1;t1;t1;pac;pbc;", 1, 2, 3, 7);
        loadsAre(Edges.alike(12, 12, 1) + Edges.chain(12), 1, 3, 7, 15, 31, 63, 127, 255, 511, 1023, 2047, 4095);
    }

    static void promise20_noneTwoThatAreApart() {
        loadsAre("c9;t1;t1;t1;xab;", 1, 2, 4, 5, 6);
        loadsAre("c9;t1;t1;t1;xab;xbc;xac;", 1, 2, 4);
        loadsAre("c9;t1;t1;xab;pab;", 1);
    }

    static void promise20_withEachAllThatItIsJoinedWith() {
        loadsAre("c9;t1;t1;t1;jab;", 3, 4, 7);
        loadsAre("c9;t1;t1;t1;jab;jbc;", 7);
        loadsAre("c9;t1;t1;t1;pab;jbc;", 1, 7);
    }

    static void promise20_asManyAsThereCanBe() {
        BalancedLine x = Edges.laid(Edges.alike(12, 12, 1));
        due("all", x.load(-1), 4095);
        due("the first", x.load(0), 1);
        due("the last", x.load(4094), 4095);
        due("one more", x.load(4095), NONE);
        loadsAre(Edges.alike(1, 12, 1), 1, 2, 4, 8, 16, 32, 64, 128, 256, 512, 1024, 2048);
    }

    static void promise20_alsoWithoutALine() {
        loadsAre("c10;t11;t5;", 2);
        loadsAre("c10;t11;t5;pab;");
    }

    static void promise20_whatIsPutIsNoMatter() {
        BalancedLine x = new BalancedLine();
        x.put(8, 1);
        x.put(0, 12);
        due("loads", x.load(-1), 4);
        due("the last", x.load(3), 37);
    }

    static void promise20_askingLeavesAll() {
        Edges.refused("load(-2)", x -> x.load(-2), BAD);
        Edges.refused("load(-1)", x -> x.load(-1), 4);
        Edges.refused("load(0)", x -> x.load(0), 1);
        Edges.refused("load(3)", x -> x.load(3), 21);
        Edges.refused("load(4)", x -> x.load(4), NONE);
        Edges.refused("load of the lowest", x -> x.load(Integer.MIN_VALUE), BAD);
        Edges.refused("load of the highest", x -> x.load(Integer.MAX_VALUE), NONE);
    }

    static void promise20_toldAsItStands() {
        Edges.toldAsItStands(x -> x.load(-1));
        Edges.toldAsItStands(x -> x.load(2));
    }

    // ---- 21: FULL ones: likewise. BAD; NONE.

    static void fullAre(String text, int... want) {
        BalancedLine x = Edges.laid(text);
        due("full ones of " + text, x.full(-1), want.length);
        for (int i = 0; i < want.length; i++) {
            due("full " + i + " of " + text, x.full(i), want[i]);
        }
        due("no more of " + text, x.full(want.length), NONE);
        due("below", x.full(-2), BAD);
    }

    static void promise21_belowMinusOneAndNotSoMany() {
        BalancedLine x = new BalancedLine();
        due("-2", x.full(-2), BAD);
        due("-1", x.full(-1), 2);
        due("the first", x.full(0), 10);
        due("the last", x.full(1), 37);
        due("one more", x.full(2), NONE);
        for (int far : Edges.FAR) {
            due("full " + far, x.full(far), far < 0 ? BAD : NONE);
        }
    }

    static void promise21_noneAtAll() {
        fullAre("c5;t6;");
        fullAre("c9;t1;t1;t1;jab;jbc;xac;");
    }

    static void promise21_oneThatHoldsAll() {
        fullAre("c1;t1;", 1);
        fullAre(Edges.alike(12, 12, 1), 4095);
        fullAre(Edges.alike(12, 12, 1) + Edges.chain(12), 4095);
    }

    static void promise21_allButOne() {
        fullAre(Edges.alike(11, 12, 1), 2047, 3071, 3583, 3839, 3967, 4031, 4063, 4079, 4087, 4091, 4093, 4094);
        fullAre(Edges.alike(1, 12, 1), 1, 2, 4, 8, 16, 32, 64, 128, 256, 512, 1024, 2048);
    }

    static void promise21_partOfOneThatHoldsTwoMore() {
        fullAre("c9;t1;t1;t1;jbc;", 7);
        fullAre("c2;t1;t1;t1;jbc;", 1, 6);
        fullAre("c9;t1;t1;t1;t1;jbc;jbd;", 15);
        fullAre("c3;t1;t1;t1;t1;jbc;jbd;", 1, 14);
    }

    static void promise21_justTheCycle() {
        fullAre("c10;t4;t6;t7;", 3, 4);
        fullAre("c11;t4;t6;t7;", 3, 5);
        fullAre("c13;t4;t6;t7;", 3, 5, 6);
        fullAre("c17;t4;t6;t7;", 7);
    }

    static void promise21_apartOnes() {
        fullAre("c9;t1;t1;t1;xab;", 5, 6);
        fullAre("c9;t1;t1;xab;pab;", 1);
    }

    static void promise21_askingLeavesAll() {
        Edges.refused("full(-2)", x -> x.full(-2), BAD);
        Edges.refused("full(-1)", x -> x.full(-1), 2);
        Edges.refused("full(2)", x -> x.full(2), NONE);
        Edges.refused("full of the lowest", x -> x.full(Integer.MIN_VALUE), BAD);
        Edges.refused("full of the highest", x -> x.full(Integer.MAX_VALUE), NONE);
    }

    static void promise21_toldAsItStands() {
        Edges.toldAsItStands(x -> x.full(-1));
        Edges.toldAsItStands(x -> x.full(0));
    }

    // ---- 22: The fewest STATIONS. NONE: there is no LINE.

    static void fewestIs(String text, int want) {
        due("fewest of " + text, Edges.laid(text).fewest(), want);
    }

    static void promise22_oneToTwelve() {
        for (int n = 1; n <= 12; n++) {
            fewestIs(Edges.alike(60, n, 60), n);
            fewestIs(Edges.alike(120, n, 60), (n + 1) / 2);
            fewestIs(Edges.alike(n, n, 1), 1);
            fewestIs(Edges.alike(1, n, 1), n);
        }
    }

    static void promise22_justTheCycleAndOneMore() {
        fewestIs("c10;t10;", 1);
        fewestIs("c10;t11;", NONE);
        fewestIs("c10;t4;t6;", 1);
        fewestIs("c10;t5;t6;", 2);
        fewestIs("c59;t60;", NONE);
        fewestIs("c60;t60;", 1);
    }

    static void promise22_inOneStationWithOneThatItIsBehind() {
        fewestIs(Edges.alike(12, 12, 1) + Edges.chain(12), 1);
        fewestIs(Edges.alike(11, 12, 1) + Edges.chain(12), 2);
        fewestIs("c10;t6;t6;t4;t4;pab;pbc;pbd;", 3);
        fewestIs("c10;t6;t6;t4;t4;", 2);
    }

    static void promise22_noneTwoThatAreApart() {
        fewestIs("c9;t1;t1;xab;", 2);
        fewestIs("c9;t1;t1;t1;xab;xbc;", 2);
        fewestIs("c9;t1;t1;t1;xab;xbc;xac;", 3);
        fewestIs("c9;t1;t1;t1;pab;pbc;xac;", 2);
    }

    static void promise22_joinedOnesInOne() {
        fewestIs("c9;t5;t4;jab;", 1);
        fewestIs("c9;t5;t5;jab;", NONE);
        fewestIs("c9;t3;t3;t3;jab;jbc;", 1);
        fewestIs("c8;t3;t3;t3;jab;jbc;", NONE);
        fewestIs("c9;t1;t1;t1;jab;jbc;xac;", NONE);
        fewestIs("c9;t1;t1;t1;pab;pbc;jac;xab;", NONE);
        fewestIs("c18;t9;t1;t9;pab;pbc;jac;", NONE);
        fewestIs("c19;t9;t1;t9;pab;pbc;jac;", 1);
    }

    static void promise22_whatIsPutIsNoMatter() {
        BalancedLine x = new BalancedLine();
        x.put(0, 12);
        due("fewest", x.fewest(), 4);
        due("left: all that is behind a has no room there", x.left(), NONE);
        due("fewest again", x.fewest(), 4);
    }

    static void promise22_askingLeavesAll() {
        Edges.refused("fewest()", x -> x.fewest(), 2);
        Edges.leavesAll("fewest() of none", () -> {
            BalancedLine x = Edges.busy();
            x.time(2, 13);
            return x;
        }, x -> x.fewest(), NONE);
    }

    static void promise22_toldAsItStands() {
        Edges.toldAsItStands(x -> x.fewest());
    }

    // ---- 23: The STATION of a TASK in THE BEST. BAD; NONE: there is no LINE.

    static void bestIs(String text, int... want) {
        BalancedLine x = Edges.laid(text);
        for (int t = 0; t < want.length; t++) {
            due("best " + t + " of " + text, x.best(t), want[t]);
        }
        due("no such task", x.best(want.length), BAD);
        due("nor such a one", x.best(-1), BAD);
    }

    static void promise23_theFirstTaskAndTheLast() {
        bestIs("c1;t1;", 1);
        bestIs(Edges.alike(1, 12, 1), 1, 2, 3, 4, 5, 6, 7, 8, 9, 10, 11, 12);
        bestIs(Edges.alike(12, 12, 1), 1, 1, 1, 1, 1, 1, 1, 1, 1, 1, 1, 1);
        bestIs(Edges.alike(1, 12, 1) + "plk;pkj;pji;pih;phg;pgf;pfe;ped;pdc;pcb;pba;", 12, 11, 10, 9, 8, 7, 6, 5, 4, 3, 2, 1);
    }

    static void promise23_aFirstThenBAndSoOn() {
        bestIs("c10;t5;t5;t5;t6;", 1, 1, 2, 3);
        bestIs("c10;t6;t5;t5;t4;", 1, 2, 2, 1);
        bestIs("c10;t5;t6;t4;t5;", 1, 2, 2, 1);
        bestIs("c10;t4;t4;t6;t6;", 1, 2, 1, 2);
        bestIs("c10;t5;t5;t5;t6;pda;", 2, 2, 3, 1);
        bestIs("c9;t1;t1;t1;xab;xbc;", 1, 2, 1);
        bestIs("c9;t1;t1;t1;xab;xbc;pba;", 2, 1, 2);
    }

    static void promise23_onlyOfTheFewest() {
        bestIs("c10;t3;t7;t3;t7;", 1, 1, 2, 2);
        bestIs("c10;t3;t3;t4;t8;t2;", 1, 1, 1, 2, 2);
        bestIs("c10;t4;t4;t2;t6;t4;", 1, 1, 1, 2, 2);
        bestIs("c10;t5;t2;t4;t4;t5;", 1, 2, 2, 2, 1);
    }

    static void promise23_noLine() {
        BalancedLine x = Edges.laid("c9;t10;t1;");
        due("a", x.best(0), NONE);
        due("b", x.best(1), NONE);
        due("bad ahead of none", x.best(2), BAD);
        due("bad ahead of none", x.best(-1), BAD);
    }

    static void promise23_askingLeavesAll() {
        Edges.refused("best(0)", x -> x.best(0), 1);
        Edges.refused("best(-1)", x -> x.best(-1), BAD);
        Edges.refused("best(5)", x -> x.best(5), BAD);
        for (int far : Edges.FAR) {
            Edges.refused("best(" + far + ")", x -> x.best(far), BAD);
        }
    }

    static void promise23_toldAsItStands() {
        for (int t = 0; t < 4; t++) {
            int asked = t;
            Edges.toldAsItStands(x -> x.best(asked));
        }
    }

    // ---- 24: How many BEST there are (1000000 at most are told; 0: no LINE).

    static void manyAre(String text, int want) {
        due("many of " + text, Edges.laid(text).many(), want);
    }

    static void promise24_noLine() {
        manyAre("c9;t10;", 0);
        manyAre("c9;t1;t1;t1;jab;jbc;xac;", 0);
    }

    static void promise24_justOne() {
        manyAre("c9;t9;", 1);
        manyAre(Edges.alike(12, 12, 1), 1);
        manyAre(Edges.alike(1, 12, 1) + Edges.chain(12), 1);
    }

    static void promise24_aMillionAtMost() {
        manyAre("c6;t2;t2;t3;t2;t1;t3;t1;t2;t3;t2;t3;t2;xbg;xkl;pgh;pfk;", 999880);
        manyAre("c4;t2;t1;t1;t1;t1;t3;t1;t2;t2;t3;t1;t3;xad;pjl;xak;xch;pfh;pei;", 1000000);
        manyAre(Edges.alike(1, 9, 1), 362880);
        manyAre(Edges.alike(1, 10, 1) + "pab;pcd;", 907200);
        manyAre(Edges.alike(1, 10, 1) + "pab;pac;", 1000000);
        manyAre(Edges.alike(1, 12, 1), 1000000);
    }

    static void promise24_eachLineOnce() {
        manyAre("c1;t1;t1;", 2);
        manyAre("c2;t1;t1;", 1);
        manyAre("c2;t1;t1;t1;", 6);
        manyAre("c2;t1;t1;t1;t1;", 6);
        manyAre("c9;t1;t1;xab;", 2);
        manyAre("c9;t1;t1;xab;pab;", 1);
        manyAre("c9;t9;t9;t9;jab;", 0);
    }

    static void promise24_whatIsPutIsNoMatter() {
        BalancedLine x = Edges.laid("c1;t1;t1;t1;");
        x.put(0, 3);
        due("many", x.many(), 6);
        due("left", x.left(), 3);
        due("many again", x.many(), 6);
    }

    static void promise24_askingLeavesAll() {
        Edges.refused("many()", x -> x.many(), 2);
    }

    static void promise24_toldAsItStands() {
        Edges.toldAsItStands(x -> x.many());
    }

    // ---- 25: STATIONS (bit k for STATION k) in which a TASK is in some BEST. BAD; NONE: there is no LINE.

    static void mayAre(String text, int... want) {
        BalancedLine x = Edges.laid(text);
        for (int t = 0; t < want.length; t++) {
            due("may " + t + " of " + text, x.may(t), want[t]);
        }
        due("no such task", x.may(want.length), BAD);
        due("nor such a one", x.may(-1), BAD);
    }

    static void promise25_theFirstStationAndTheLast() {
        mayAre("c1;t1;", 2);
        mayAre(Edges.alike(12, 12, 1), 2, 2, 2, 2, 2, 2, 2, 2, 2, 2, 2, 2);
        mayAre(Edges.alike(1, 12, 1) + Edges.chain(12), 2, 4, 8, 16, 32, 64, 128, 256, 512, 1024, 2048, 4096);
        mayAre(Edges.alike(1, 12, 1), 8190, 8190, 8190, 8190, 8190, 8190, 8190, 8190, 8190, 8190, 8190, 8190);
    }

    static void promise25_onlyInTheFewest() {
        mayAre("c9;t5;t5;t4;pab;", 2, 4, 6);
        mayAre("c10;t5;t5;t5;pab;pbc;", 2, 6, 4);
        mayAre("c10;t4;t6;t10;pcb;", 4, 4, 2);
    }

    static void promise25_noLine() {
        BalancedLine x = Edges.laid("c9;t10;t1;");
        due("a", x.may(0), NONE);
        due("b", x.may(1), NONE);
        due("bad ahead of none", x.may(2), BAD);
        due("bad ahead of none", x.may(-1), BAD);
    }

    static void promise25_askingLeavesAll() {
        Edges.refused("may(0)", x -> x.may(0), 2);
        Edges.refused("may(-1)", x -> x.may(-1), BAD);
        Edges.refused("may(5)", x -> x.may(5), BAD);
        for (int far : Edges.FAR) {
            Edges.refused("may(" + far + ")", x -> x.may(far), BAD);
        }
    }

    static void promise25_toldAsItStands() {
        for (int t = 0; t < 4; t++) {
            int asked = t;
            Edges.toldAsItStands(x -> x.may(asked));
        }
    }

    // ---- 26: SHORTEST of K STATIONS (1 to 12). BAD; NONE: there is none, whatever CYCLE to 720.

    static void shortestAre(String text, int... want) {
        BalancedLine x = Edges.laid(text);
        for (int k = 1; k <= 12; k++) {
            due("shortest of " + k + " of " + text, x.shortest(k), want[Math.min(k, want.length) - 1]);
        }
        due("0", x.shortest(0), BAD);
        due("13", x.shortest(13), BAD);
    }

    static void promise26_oneStationToTwelve() {
        shortestAre(Edges.alike(1, 12, 60), 720, 360, 240, 180, 180, 120, 120, 120, 120, 120, 120, 60);
        shortestAre(Edges.alike(120, 12, 1), 12, 6, 4, 3, 3, 2, 2, 2, 2, 2, 2, 1);
    }

    static void promise26_ofSoManyOrFewer() {
        shortestAre("c1;t1;", 1);
        shortestAre("c1;t60;", 60);
        shortestAre("c1;t3;t4;t5;pab;pbc;", 12, 7, 5);
        shortestAre("c1;t3;t4;t5;jac;", 12, 8);
        shortestAre("c1;t3;t4;t5;pab;pbc;jac;", 12);
    }

    static void promise26_noneWhateverTheCycle() {
        shortestAre("c120;t1;t1;xab;", NONE, 1);
        shortestAre("c120;t1;t1;t1;jab;jbc;xac;", NONE);
        shortestAre("c120;t1;t1;t1;pab;pbc;jac;xab;", NONE);
        BalancedLine x = Edges.laid(Edges.alike(120, 12, 60));
        for (int a = 0; a < 12; a++) {
            for (int b = a + 1; b < 12; b++) {
                x.zone(a, b, 1);
            }
        }
        due("eleven of twelve apart", x.shortest(11), NONE);
        due("twelve of twelve apart", x.shortest(12), 60);
    }

    static void promise26_beyondTheCyclesThatCanBeTold() {
        due("just 120", Edges.laid("c1;t60;t60;").shortest(1), 120);
        due("121", Edges.laid("c1;t60;t60;t1;").shortest(1), 121);
        due("719", Edges.laid("c1;t59;t60;t60;t60;t60;t60;t60;t60;t60;t60;t60;t60;").shortest(1), 719);
    }

    static void promise26_theCycleAsToldIsNoMatter() {
        BalancedLine x = new BalancedLine();
        for (int c : new int[] {1, 16, 17, 18, 120}) {
            x.cycle(c);
            due("of four", x.shortest(4), 17);
            due("of one", x.shortest(1), NONE);
            due("of twelve", x.shortest(12), 11);
            due("the cycle stays", x.count(1), c);
        }
    }

    /** A is put far behind: left() is 11, and what is asked behind it is told as if nothing were put. */
    static BalancedLine putFarBehind() {
        BalancedLine x = Edges.laid("c10;t6;t6;t4;t4;pab;pbc;pbd;");
        x.put(0, 9);
        due("fewest", x.fewest(), 3);
        due("left", x.left(), 11);
        return x;
    }

    static void promise26_whatIsPutIsNoMatter() {
        int[] want = {20, 12, 8, 6};
        for (int k = 1; k <= 4; k++) {
            due("shortest of " + k, putFarBehind().shortest(k), want[k - 1]);
        }
        BalancedLine x = putFarBehind();
        x.shortest(2);
        due("left again", x.left(), 11);
    }

    static void promise26_askingLeavesAll() {
        Edges.refused("shortest(0)", x -> x.shortest(0), BAD);
        Edges.refused("shortest(1)", x -> x.shortest(1), NONE);
        Edges.refused("shortest(2)", x -> x.shortest(2), 11);
        Edges.refused("shortest(12)", x -> x.shortest(12), 6);
        Edges.refused("shortest(13)", x -> x.shortest(13), BAD);
        for (int far : Edges.FAR) {
            Edges.refused("shortest(" + far + ")", x -> x.shortest(far), BAD);
        }
    }

    static void promise26_toldAsItStands() {
        Edges.toldAsItStands(x -> x.shortest(2));
        Edges.toldAsItStands(x -> x.shortest(3));
    }

    // ---- 27: The fewest STATIONS by a CYCLE (1 to 120), all else as told. BAD; NONE.

    static void promise27_oneTo120() {
        BalancedLine x = Edges.laid(Edges.alike(60, 12, 60));
        due("0", x.by(0), BAD);
        due("1", x.by(1), NONE);
        due("59", x.by(59), NONE);
        due("60", x.by(60), 12);
        due("119", x.by(119), 12);
        due("120", x.by(120), 6);
        due("121", x.by(121), BAD);
        due("1 of ones", Edges.laid(Edges.alike(60, 12, 1)).by(1), 12);
        due("120 of tens", Edges.laid(Edges.alike(60, 12, 10)).by(120), 1);
        due("119 of tens", Edges.laid(Edges.alike(60, 12, 10)).by(119), 2);
    }

    static void promise27_noneAndAsTold() {
        BalancedLine x = new BalancedLine();
        due("too short", x.by(10), NONE);
        due("just long enough", x.by(11), 7);
        due("as told", x.by(20), x.fewest());
        due("whatever cycle", Edges.laid("c9;t1;t1;t1;jab;jbc;xac;").by(120), NONE);
        x.cycle(1);
        due("a line by another cycle", x.by(20), 4);
    }

    static void promise27_whatIsPutIsNoMatter() {
        due("as told", putFarBehind().by(10), 3);
        due("all in one", putFarBehind().by(20), 1);
        BalancedLine x = putFarBehind();
        due("too short for one that is put", x.by(5), NONE);
        due("it stays put", x.where(0), 9);
        due("left again", x.left(), 11);
    }

    static void promise27_askingLeavesAll() {
        Edges.refused("by(0)", x -> x.by(0), BAD);
        Edges.refused("by(1)", x -> x.by(1), NONE);
        Edges.refused("by(12)", x -> x.by(12), 2);
        Edges.refused("by(120)", x -> x.by(120), 2);
        Edges.refused("by(121)", x -> x.by(121), BAD);
        for (int far : Edges.FAR) {
            Edges.refused("by(" + far + ")", x -> x.by(far), BAD);
        }
    }

    static void promise27_toldAsItStands() {
        Edges.toldAsItStands(x -> x.by(11));
    }

    // ---- 28: The fewest STATIONS, were the TIME of a TASK v (1 to 60). BAD; NONE.

    static void promise28_theFirstTaskAndTheLast() {
        BalancedLine x = Edges.laid(Edges.alike(12, 12, 1));
        due("task -1", x.were(-1, 1), BAD);
        due("a", x.were(0, 2), 2);
        due("l", x.were(11, 2), 2);
        due("task 12", x.were(12, 1), BAD);
    }

    static void promise28_oneTo60() {
        BalancedLine x = Edges.laid("c60;t30;t30;");
        due("0", x.were(0, 0), BAD);
        due("1", x.were(0, 1), 1);
        due("30", x.were(0, 30), 1);
        due("31", x.were(0, 31), 2);
        due("60", x.were(0, 60), 2);
        due("61", x.were(0, 61), BAD);
    }

    static void promise28_justTheCycleAndOneMore() {
        BalancedLine x = Edges.laid("c10;t5;t11;");
        due("no line yet", x.fewest(), NONE);
        due("one more than the cycle", x.were(1, 11), NONE);
        due("just the cycle", x.were(1, 10), 2);
        due("both in one", x.were(1, 5), 1);
        due("another task is no help", x.were(0, 1), NONE);
    }

    static void promise28_whatIsPutIsNoMatter() {
        due("as told", putFarBehind().were(0, 6), 3);
        due("shorter", putFarBehind().were(0, 4), 2);
        BalancedLine x = putFarBehind();
        due("too long where it is put", x.were(0, 11), NONE);
        due("it stays put", x.where(0), 9);
        due("left again", x.left(), 11);
    }

    static void promise28_askingLeavesAll() {
        Edges.refused("were(-1, 1)", x -> x.were(-1, 1), BAD);
        Edges.refused("were(5, 1)", x -> x.were(5, 1), BAD);
        Edges.refused("were(0, 0)", x -> x.were(0, 0), BAD);
        Edges.refused("were(0, 61)", x -> x.were(0, 61), BAD);
        Edges.refused("were(0, 60)", x -> x.were(0, 60), NONE);
        Edges.refused("were(0, 12)", x -> x.were(0, 12), 3);
        for (int far : Edges.FAR) {
            Edges.refused("were(" + far + ", 1)", x -> x.were(far, 1), BAD);
            Edges.refused("were(0, " + far + ")", x -> x.were(0, far), BAD);
        }
    }

    static void promise28_toldAsItStands() {
        Edges.toldAsItStands(x -> x.were(2, 6));
    }

    // ---- 29: ORDERS without any one of which there would be fewer STATIONS (or a LINE, where there is none).
    //          BAD (below -1); NONE: not so many.

    static void bindsAre(String text, int... want) {
        BalancedLine x = Edges.laid(text);
        due("binds of " + text, x.binds(-1), want.length);
        for (int i = 0; i < want.length; i++) {
            due("binds " + i + " of " + text, x.binds(i), want[i]);
        }
        due("no more of " + text, x.binds(want.length), NONE);
        due("below", x.binds(-2), BAD);
    }

    static void promise29_belowMinusOneAndNotSoMany() {
        BalancedLine x = Edges.laid("c10;t6;t6;t4;t4;pab;pbc;pbd;");
        due("-2", x.binds(-2), BAD);
        due("-1", x.binds(-1), 3);
        due("the first", x.binds(0), 1);
        due("the last", x.binds(2), 103);
        due("one more", x.binds(3), NONE);
        for (int far : Edges.FAR) {
            due("binds " + far, x.binds(far), far < 0 ? BAD : NONE);
        }
    }

    static void promise29_noneAtAll() {
        bindsAre("c9;t9;t9;");
        bindsAre("c9;t9;t9;pab;");
        bindsAre("c9;t1;t1;pab;");
        bindsAre(Edges.alike(1, 12, 1) + Edges.chain(12));
    }

    static void promise29_byTheNumbersOfBoth() {
        bindsAre("c10;t6;t6;t4;t4;pbd;pbc;pab;", 1, 102, 103);
        bindsAre("c10;t4;t4;t6;t6;pdb;pda;pcd;", 203, 300, 301);
        bindsAre(Edges.alike(10, 8, 10) + "t6;t6;t4;t4;pij;pjk;pjl;", 809, 910, 911);
        bindsAre(Edges.alike(10, 8, 10) + "t4;t4;t6;t6;plj;pli;pkl;", 1011, 1108, 1109);
    }

    static void promise29_aLineWhereThereIsNone() {
        bindsAre("c18;t9;t1;t9;pab;pbc;jac;", 1, 102);
        bindsAre("c19;t9;t1;t9;pab;pbc;jac;");
        bindsAre("c17;t9;t1;t9;pab;pbc;jac;");
        bindsAre("c18;t9;t1;t9;pab;pbc;jac;xab;", 1, 102);
    }

    static void promise29_eachAlone() {
        bindsAre("c10;t6;t6;t4;t4;pab;pbc;pbd;pac;", 1, 102, 103);
        bindsAre("c18;t9;t1;t1;t9;pab;pbd;pac;pcd;jad;");
    }

    static void promise29_whatIsPutIsNoMatter() {
        BalancedLine x = putFarBehind();
        due("how many", x.binds(-1), 3);
        due("the last", x.binds(2), 103);
        due("left again", x.left(), 11);
    }

    static void promise29_askingLeavesAll() {
        Edges.refused("binds(-2)", x -> x.binds(-2), BAD);
        Edges.refused("binds(-1)", x -> x.binds(-1), 0);
        Edges.refused("binds(0)", x -> x.binds(0), NONE);
        Edges.refused("binds of the lowest", x -> x.binds(Integer.MIN_VALUE), BAD);
        Edges.refused("binds of the highest", x -> x.binds(Integer.MAX_VALUE), NONE);
        Edges.leavesAll("binds(-1) of some", () -> Edges.laid("c10;t6;t6;t4;t4;pab;pbc;pbd;"), x -> x.binds(-1), 3);
    }

    static void promise29_toldAsItStands() {
        Edges.toldAsItStands(x -> x.binds(-1));
        Edges.toldAsItStands(x -> x.binds(0));
    }

    // ---- 30: How many. BAD.

    static void promise30_whatNoughtToEleven() {
        BalancedLine x = new BalancedLine();
        due("-1", x.count(-1), BAD);
        due("0", x.count(0), 9);
        due("11", x.count(11), 0);
        due("12", x.count(12), BAD);
    }

    static void promise30_theLeastOfEach() {
        BalancedLine x = Edges.laid("c1;t1;");
        x.wipe();
        int[] want = {1, 1, 0, 0, 0, 0, 0, 1, 0, 0, 0, 0};
        for (int what = 0; what < want.length; what++) {
            due("count " + what, x.count(what), want[what]);
        }
    }

    static void promise30_theMostOfEach() {
        BalancedLine x = Edges.laid(Edges.alike(120, 12, 60));
        for (int a = 0; a < 12; a++) {
            for (int b = a + 1; b < 12; b++) {
                x.order(a, b, 1);
                x.zone(a, b, 1);
            }
            x.put(a, a + 1);
        }
        Edges.type(x, "z".repeat(201 - x.count(9)));
        int[] want = {12, 120, 66, 66, 0, 12, 12, 720, 6, 200, 720, 720};
        for (int what = 0; what < want.length; what++) {
            due("count " + what, x.count(what), want[what]);
        }
        x.cycle(119);
        due("left of a best", x.count(10), 708);
        due("left by hand", x.count(11), 708);
    }

    static void promise30_allJoined() {
        BalancedLine x = Edges.laid(Edges.alike(120, 12, 10));
        for (int a = 0; a < 12; a++) {
            for (int b = a + 1; b < 12; b++) {
                x.zone(a, b, 2);
            }
            x.put(a, 12);
        }
        due("joined", x.count(4), 66);
        due("apart", x.count(3), 0);
        due("put", x.count(5), 12);
        due("stations", x.count(6), 1);
        due("left of a best", x.count(10), 0);
        due("left by hand", x.count(11), 0);
    }

    static void promise30_whatIsLeftOfTheCycle() {
        BalancedLine x = Edges.laid("c10;t6;t5;");
        due("of a best", x.count(10), 9);
        due("by hand, nothing put", x.count(11), 0);
        x.put(0, 12);
        due("by hand, one", x.count(11), 4);
        x.put(1, 1);
        due("by hand, two", x.count(11), 9);
        x.time(0, 10);
        due("of a best then", x.count(10), 5);
        due("by hand then", x.count(11), 5);
        x.time(0, 11);
        due("no line", x.count(10), NONE);
        due("by hand the other alone", x.count(11), 5);
        due("stations", x.count(6), 1);
        x.undo();
        due("a line again", x.count(10), 5);
    }

    static void promise30_askingLeavesAll() {
        int[] want = {5, 12, 2, 2, 1, 4, 3, 21, 6, 13, 3, 18};
        for (int what = 0; what < want.length; what++) {
            int asked = what;
            Edges.refused("count(" + what + ")", x -> x.count(asked), want[what]);
        }
        Edges.refused("count(-1)", x -> x.count(-1), BAD);
        Edges.refused("count(12)", x -> x.count(12), BAD);
        for (int far : Edges.FAR) {
            Edges.refused("count(" + far + ")", x -> x.count(far), BAD);
        }
    }

    static void promise30_toldAsItStands() {
        for (int what : new int[] {1, 2, 3, 4, 7, 10}) {
            Edges.toldAsItStands(x -> x.count(what));
        }
    }
}
