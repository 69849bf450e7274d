/** The edges that the document names for what is put by hand: promises 12 to 18. */
public final class EdgeByHandTest {
    static final int BAD = Edges.BAD, NO = Edges.NO, NONE = Edges.NONE;

    public static void main(String[] args) throws ReflectiveOperationException {
        Edges.run(EdgeByHandTest.class, 12, 18);
    }

    static void due(String what, int got, int want) {
        Edges.due(what, got, want);
    }

    // ---- 12: PUT in a STATION (1 to 12; in place of where it was): TIMES there together then.
    //          BAD; NO: there is a WHY NOT, or it is PUT there.

    static void promise12_theFirstStationAndTheLast() {
        BalancedLine x = new BalancedLine();
        due("station 0", x.put(0, 0), BAD);
        due("station 13", x.put(0, 13), BAD);
        due("nowhere yet", x.where(0), NONE);
        due("station 1", x.put(0, 1), 6);
        due("there", x.where(0), 1);
        due("station 12", x.put(0, 12), 6);
        due("there", x.where(0), 12);
    }

    static void promise12_theFirstTaskAndTheLast() {
        BalancedLine x = Edges.laid(Edges.alike(9, 12, 1));
        due("task -1", x.put(-1, 1), BAD);
        due("task 12", x.put(12, 1), BAD);
        due("a", x.put(0, 1), 1);
        due("l", x.put(11, 1), 2);
        BalancedLine y = Edges.laid("c1;t1;");
        due("the only one", y.put(0, 12), 1);
        due("no other", y.put(1, 12), BAD);
    }

    static void promise12_inPlaceOfWhereItWas() {
        BalancedLine x = Edges.laid("c10;t6;t4;");
        x.put(0, 3);
        x.put(1, 3);
        due("elsewhere", x.put(0, 4), 6);
        due("what it left", x.station(3, 0), 2);
        due("where it is", x.station(4, 0), 1);
        due("put", x.count(5), 2);
        due("back", x.put(0, 3), 10);
        due("stations", x.count(6), 1);
    }

    static void promise12_itIsPutThere() {
        BalancedLine x = new BalancedLine();
        x.put(0, 12);
        due("there already", x.put(0, 12), NO);
        due("elsewhere", x.put(0, 11), 6);
        due("there once more", x.put(0, 12), 6);
        due("changes", x.count(8), 3);
    }

    static void promise12_justTheCycleAndOneMore() {
        BalancedLine x = Edges.laid("c10;t4;t6;t7;t10;t11;");
        due("a", x.put(0, 1), 4);
        due("one more", x.put(2, 1), NO);
        due("just the cycle", x.put(1, 1), 10);
        due("just the cycle alone", x.put(3, 2), 10);
        due("more than the cycle alone", x.put(4, 3), NO);
        BalancedLine y = Edges.laid("c120;t60;t60;t1;");
        due("60", y.put(0, 1), 60);
        due("120", y.put(1, 1), 120);
        due("121", y.put(2, 1), NO);
    }

    static void promise12_allInOneStation() {
        BalancedLine x = Edges.laid(Edges.alike(120, 12, 10));
        for (int t = 0; t < 12; t++) {
            due("one more", x.put(t, 12), 10 * (t + 1));
        }
        due("all", x.station(12, 0), 4095);
        due("put", x.count(5), 12);
        BalancedLine y = Edges.laid(Edges.alike(119, 12, 10));
        for (int t = 0; t < 11; t++) {
            y.put(t, 12);
        }
        due("no room for the last", y.put(11, 12), NO);
    }

    static void promise12_eachInAStationOfItsOwn() {
        BalancedLine x = Edges.laid(Edges.alike(60, 12, 60));
        for (int t = 0; t < 12; t++) {
            due("station " + (12 - t), x.put(t, 12 - t), 60);
        }
        due("stations", x.count(6), 12);
        due("no more room", x.put(0, 11), NO);
    }

    static void promise12_badAheadOfNo() {
        BalancedLine x = Edges.busy();
        due("no such task, in a full station", x.put(5, 1), BAD);
        due("a task that is put, in no station", x.put(4, 13), BAD);
    }

    static BalancedLine busyWithALater() {
        BalancedLine x = Edges.busy();
        x.off(1);
        x.off(3);
        x.put(0, 3);
        return x;
    }

    static void promise12_refusedLeavesAll() {
        Edges.refused("put(-1, 3)", x -> x.put(-1, 3), BAD);
        Edges.refused("put(5, 3)", x -> x.put(5, 3), BAD);
        Edges.refused("put(2, 0)", x -> x.put(2, 0), BAD);
        Edges.refused("put(2, 13)", x -> x.put(2, 13), BAD);
        Edges.refused("put(0, 0), of one that is put", x -> x.put(0, 0), BAD);
        Edges.refused("put(0, 13), of one that is put", x -> x.put(0, 13), BAD);
        Edges.leavesAll("put(1, 2), ahead of a", EdgeByHandTest::busyWithALater, x -> x.put(1, 2), NO);
        Edges.refused("put(0, 2), behind b", x -> x.put(0, 2), NO);
        Edges.refused("put(3, 1), too long", x -> x.put(3, 1), NO);
        Edges.refused("put(1, 12), with e", x -> x.put(1, 12), NO);
        Edges.refused("put(2, 1), without e", x -> x.put(2, 1), NO);
        Edges.refused("put(4, 12), where it is", x -> x.put(4, 12), NO);
        Edges.refused("put(0, 1), where it is", x -> x.put(0, 1), NO);
        for (int far : Edges.FAR) {
            Edges.refused("put(" + far + ", 3)", x -> x.put(far, 3), BAD);
            Edges.refused("put(2, " + far + ")", x -> x.put(2, far), BAD);
        }
    }

    static void promise12_isOneChange() {
        BalancedLine x = new BalancedLine();
        for (int k = 1; k <= 6; k++) {
            x.put(0, k);
            due("changes", x.count(8), k);
        }
        x.put(0, 7);
        due("six at most", x.count(8), 6);
    }

    static void promise12_takesNoneOff() {
        BalancedLine x = Edges.laid("c9;t3;t3;t3;pab;xbc;");
        x.put(0, 1);
        x.put(1, 2);
        x.put(2, 3);
        x.put(1, 1);
        due("a", x.where(0), 1);
        due("b", x.where(1), 1);
        due("c", x.where(2), 3);
    }

    // ---- 13: A TASK is taken off: in which STATION it was. BAD; NO: it is not PUT.

    static void promise13_theFirstTaskAndTheLast() {
        BalancedLine x = Edges.laid(Edges.alike(9, 12, 1));
        x.put(0, 1);
        x.put(11, 12);
        due("task -1", x.off(-1), BAD);
        due("task 12", x.off(12), BAD);
        due("a, in the first station", x.off(0), 1);
        due("l, in the last station", x.off(11), 12);
        due("put", x.count(5), 0);
    }

    static void promise13_itIsNotPut() {
        BalancedLine x = new BalancedLine();
        due("never put", x.off(0), NO);
        x.put(0, 5);
        due("put", x.off(0), 5);
        due("no more", x.off(0), NO);
        x.put(0, 5);
        x.cycle(5);
        due("taken off already", x.off(0), NO);
        x.cycle(20);
        x.put(0, 5);
        x.undo();
        due("undone", x.off(0), NO);
    }

    static void promise13_refusedLeavesAll() {
        Edges.refused("off(-1)", x -> x.off(-1), BAD);
        Edges.refused("off(5)", x -> x.off(5), BAD);
        Edges.refused("off(2)", x -> x.off(2), NO);
        for (int far : Edges.FAR) {
            Edges.refused("off(" + far + ")", x -> x.off(far), BAD);
        }
    }

    static void promise13_theOthersStay() {
        BalancedLine x = Edges.busy();
        due("a", x.off(0), 1);
        due("b", x.where(1), 1);
        due("d", x.where(3), 2);
        due("e", x.where(4), 12);
        due("station 1", x.station(1, 1), 5);
        due("the last of a station", x.off(4), 12);
        due("station 12", x.station(12, 0), 0);
        due("stations", x.count(6), 2);
    }

    static void promise13_isOneChange() {
        BalancedLine x = Edges.laid("c9;t1;");
        x.put(0, 12);
        x.off(0);
        due("changes", x.count(8), 2);
        due("undo", x.undo(), 1);
        due("there again", x.where(0), 12);
    }

    // ---- 14: WHY NOT; 0: none. BAD.

    static void promise14_theFirstStationAndTheLast() {
        BalancedLine x = new BalancedLine();
        due("station 0", x.why(0, 0), BAD);
        due("station 1", x.why(0, 1), 0);
        due("station 12", x.why(0, 12), 0);
        due("station 13", x.why(0, 13), BAD);
    }

    static void promise14_theFirstTaskAndTheLast() {
        BalancedLine x = Edges.laid(Edges.alike(9, 12, 1));
        due("task -1", x.why(-1, 1), BAD);
        due("a", x.why(0, 1), 0);
        due("l", x.why(11, 1), 0);
        due("task 12", x.why(12, 1), BAD);
    }

    static void promise14_nothingPutYet() {
        BalancedLine x = new BalancedLine();
        for (int t = 0; t < 9; t++) {
            for (int k = 1; k <= 12; k++) {
                due("none", x.why(t, k), 0);
            }
        }
    }

    static void promise14_oneLaterThatItIsBehind() {
        BalancedLine x = Edges.laid("c9;t1;t1;t1;pab;pbc;");
        x.put(0, 12);
        due("a is one later", x.why(1, 11), 1);
        due("a is far later", x.why(1, 1), 1);
        due("with a", x.why(1, 12), 0);
        due("by others alone", x.why(2, 1), 0);
        x.put(0, 2);
        due("a is one later", x.why(1, 1), 1);
        due("with a", x.why(1, 2), 0);
        due("a is earlier", x.why(1, 3), 0);
        x.off(0);
        due("a is not put", x.why(1, 1), 0);
    }

    static void promise14_oneEarlierThatIsBehindIt() {
        BalancedLine x = Edges.laid("c9;t1;t1;t1;pab;pbc;");
        x.put(1, 1);
        due("b is one earlier", x.why(0, 2), 2);
        due("b is far earlier", x.why(0, 12), 2);
        due("with b", x.why(0, 1), 0);
        x.off(1);
        x.put(2, 1);
        due("by others alone", x.why(0, 12), 0);
        due("c is earlier", x.why(1, 2), 2);
        x.put(2, 11);
        due("c is one earlier", x.why(1, 12), 2);
        due("with c", x.why(1, 11), 0);
        due("c is later", x.why(1, 10), 0);
    }

    static void promise14_moreThanTheCycle() {
        BalancedLine x = Edges.laid("c10;t6;t4;t5;t10;t11;");
        x.put(0, 12);
        due("just the cycle", x.why(1, 12), 0);
        due("one more", x.why(2, 12), 3);
        due("in another station", x.why(2, 11), 0);
        due("just the cycle alone", x.why(3, 1), 0);
        due("one more alone", x.why(4, 1), 3);
        x.put(1, 12);
        due("itself is set aside", x.why(1, 12), 0);
        due("the other itself is set aside", x.why(0, 12), 0);
    }

    static void promise14_oneApartThere() {
        BalancedLine x = Edges.laid("c10;t1;t1;t1;xab;");
        x.put(0, 6);
        due("there", x.why(1, 6), 4);
        due("one earlier", x.why(1, 5), 0);
        due("one later", x.why(1, 7), 0);
        due("one that is not apart", x.why(2, 6), 0);
        x.off(0);
        due("not put", x.why(1, 6), 0);
        x.put(1, 6);
        due("the other way", x.why(0, 6), 4);
    }

    static void promise14_oneJoinedElsewhere() {
        BalancedLine x = Edges.laid("c10;t1;t1;t1;jab;jbc;");
        x.put(0, 6);
        due("there", x.why(1, 6), 0);
        due("one earlier", x.why(1, 5), 5);
        due("one later", x.why(1, 7), 5);
        due("by others alone", x.why(2, 5), 0);
        x.put(1, 6);
        due("a itself is joined with b", x.why(0, 7), 5);
        x.off(0);
        x.off(1);
        due("not put", x.why(1, 5), 0);
    }

    /** Each of the reasons with each of the others: b later, c earlier, d too long, e apart, f joined. */
    static void promise14_theFirstOfSeveral() {
        int[] where = {0, 6, 4, 5, 5, 7};
        for (int some = 0; some < 32; some++) {
            BalancedLine x = Edges.laid("c10;t2;t1;t1;t9;t1;t1;pba;pac;xae;jaf;");
            int want = 0;
            for (int reason = 5; reason >= 1; reason--) {
                if ((some >> reason - 1 & 1) == 1) {
                    Edges.check(x.put(reason, where[reason]) > 0, "it is put");
                    want = reason;
                }
            }
            due("reasons " + some, x.why(0, 5), want);
            due("put likewise", x.put(0, 5), want == 0 ? 2 : NO);
        }
    }

    static void promise14_itselfIsSetAside() {
        BalancedLine x = Edges.busy();
        due("a", x.why(0, 1), 0);
        due("b", x.why(1, 1), 0);
        due("d", x.why(3, 2), 0);
        due("e", x.why(4, 12), 0);
        due("d elsewhere", x.why(3, 3), 0);
        due("e elsewhere", x.why(4, 11), 0);
    }

    static void promise14_askingLeavesAll() {
        Edges.refused("why(2, 1)", x -> x.why(2, 1), 5);
        Edges.refused("why(0, 1)", x -> x.why(0, 1), 0);
        Edges.refused("why(2, 12)", x -> x.why(2, 12), 0);
        Edges.refused("why(0, 0)", x -> x.why(0, 0), BAD);
        Edges.refused("why(0, 13)", x -> x.why(0, 13), BAD);
        Edges.refused("why(-1, 1)", x -> x.why(-1, 1), BAD);
        Edges.refused("why(5, 1)", x -> x.why(5, 1), BAD);
        for (int far : Edges.FAR) {
            Edges.refused("why(" + far + ", 1)", x -> x.why(far, 1), BAD);
            Edges.refused("why(0, " + far + ")", x -> x.why(0, far), BAD);
        }
    }

    // ---- 15: Of a STATION (1 to 12) by hand. BAD.

    static void promise15_theFirstStationAndTheLast() {
        BalancedLine x = new BalancedLine();
        x.put(0, 1);
        x.put(1, 12);
        for (int what = 0; what <= 2; what++) {
            due("station 0", x.station(0, what), BAD);
            due("station 13", x.station(13, what), BAD);
        }
        due("station 1", x.station(1, 0), 1);
        due("station 12", x.station(12, 0), 2);
        due("times in station 1", x.station(1, 1), 6);
        due("times in station 12", x.station(12, 1), 9);
        due("left in station 1", x.station(1, 2), 14);
        due("left in station 12", x.station(12, 2), 11);
    }

    static void promise15_whatNoughtToTwo() {
        BalancedLine x = new BalancedLine();
        due("-1", x.station(1, -1), BAD);
        due("0", x.station(1, 0), 0);
        due("2", x.station(1, 2), 20);
        due("3", x.station(1, 3), BAD);
    }

    static void promise15_anEmptyStation() {
        BalancedLine x = new BalancedLine();
        for (int k = 1; k <= 12; k++) {
            due("tasks", x.station(k, 0), 0);
            due("times", x.station(k, 1), 0);
            due("left", x.station(k, 2), 20);
        }
        x.cycle(120);
        due("left of the longest", x.station(12, 2), 120);
        x.cycle(1);
        due("left of the shortest", x.station(12, 2), 1);
    }

    static void promise15_aFullStation() {
        BalancedLine x = Edges.laid(Edges.alike(120, 12, 10));
        for (int t = 0; t < 12; t++) {
            x.put(t, 7);
        }
        due("tasks", x.station(7, 0), 4095);
        due("times", x.station(7, 1), 120);
        due("left", x.station(7, 2), 0);
        due("the one ahead", x.station(6, 0), 0);
        due("the one behind", x.station(8, 0), 0);
    }

    static void promise15_asItStandsThen() {
        BalancedLine x = new BalancedLine();
        x.put(0, 3);
        x.time(0, 20);
        due("times", x.station(3, 1), 20);
        due("nothing left", x.station(3, 2), 0);
        x.time(0, 21);
        due("taken off", x.station(3, 0), 0);
        due("all is left", x.station(3, 2), 20);
        x.undo();
        due("as ahead", x.station(3, 1), 20);
    }

    static void promise15_askingLeavesAll() {
        Edges.refused("station(1, 0)", x -> x.station(1, 0), 3);
        Edges.refused("station(0, 0)", x -> x.station(0, 0), BAD);
        Edges.refused("station(13, 0)", x -> x.station(13, 0), BAD);
        Edges.refused("station(1, 3)", x -> x.station(1, 3), BAD);
        for (int far : Edges.FAR) {
            Edges.refused("station(" + far + ", 0)", x -> x.station(far, 0), BAD);
            Edges.refused("station(1, " + far + ")", x -> x.station(1, far), BAD);
        }
    }

    // ---- 16: In which STATION a TASK is PUT. BAD; NONE.

    static void promise16_theFirstTaskAndTheLast() {
        BalancedLine x = Edges.laid(Edges.alike(9, 12, 1));
        x.put(0, 1);
        x.put(11, 12);
        due("task -1", x.where(-1), BAD);
        due("a", x.where(0), 1);
        due("l", x.where(11), 12);
        due("task 12", x.where(12), BAD);
    }

    static void promise16_notPut() {
        BalancedLine x = new BalancedLine();
        due("not yet", x.where(8), NONE);
        x.put(8, 1);
        due("put", x.where(8), 1);
        x.off(8);
        due("no more", x.where(8), NONE);
        x.undo();
        due("again", x.where(8), 1);
        x.time(8, 60);
        due("taken off", x.where(8), NONE);
    }

    static void promise16_askingLeavesAll() {
        Edges.refused("where(0)", x -> x.where(0), 1);
        Edges.refused("where(2)", x -> x.where(2), NONE);
        Edges.refused("where(-1)", x -> x.where(-1), BAD);
        Edges.refused("where(5)", x -> x.where(5), BAD);
        for (int far : Edges.FAR) {
            Edges.refused("where(" + far + ")", x -> x.where(far), BAD);
        }
    }

    // ---- 17: LEFT. NONE: there is no such LINE.

    static void promise17_nothingPutYet() {
        due("at first", new BalancedLine().left(), 4);
        due("one task", Edges.laid("c9;t9;").left(), 1);
        due("twelve in twelve", Edges.laid(Edges.alike(1, 12, 1)).left(), 12);
        due("twelve in one", Edges.laid(Edges.alike(12, 12, 1)).left(), 1);
        due("no line at all", Edges.laid("c9;t10;").left(), NONE);
    }

    static void promise17_allPut() {
        BalancedLine x = Edges.laid("c9;t9;t9;");
        x.put(0, 12);
        x.put(1, 1);
        due("the last one that has a task", x.left(), 12);
        x.put(0, 2);
        due("now the second", x.left(), 2);
    }

    static void promise17_stationsMayBeEmptyHere() {
        BalancedLine x = Edges.laid("c9;t9;");
        for (int k = 1; k <= 12; k++) {
            x.put(0, k);
            due("alone in " + k, x.left(), k);
        }
        BalancedLine y = Edges.laid("c9;t5;t5;pab;");
        y.put(0, 4);
        due("ahead of it and none between", y.left(), 5);
        y.put(1, 9);
        due("and between", y.left(), 9);
    }

    static void promise17_twelveAtMost() {
        BalancedLine x = Edges.laid("c9;t9;t9;t9;pab;pbc;");
        x.put(0, 10);
        due("up to the last one", x.left(), 12);
        x.put(0, 11);
        due("beyond it", x.left(), NONE);
        x.off(0);
        x.put(2, 2);
        due("ahead of the first", x.left(), NONE);
        x.put(2, 3);
        due("from the first on", x.left(), 3);
        BalancedLine y = Edges.laid(Edges.alike(1, 12, 1));
        y.put(0, 12);
        due("all twelve are needed", y.left(), 12);
    }

    static void promise17_alsoWithThoseThatArePut() {
        BalancedLine x = Edges.laid("c10;t6;t4;t5;");
        x.put(0, 1);
        due("just the cycle", x.left(), 2);
        x.zone(0, 1, 1);
        due("apart", x.left(), 2);
        x.zone(1, 2, 1);
        due("all apart", x.left(), 3);
        BalancedLine y = Edges.laid("c10;t6;t5;");
        y.put(0, 1);
        due("one too long", y.left(), 2);
        y.time(1, 4);
        due("no more", y.left(), 1);
    }

    static void promise17_eachThatIsPutIsInItsStation() {
        BalancedLine x = Edges.laid("c10;t5;t5;t5;t5;");
        x.put(0, 1);
        x.put(1, 2);
        due("filled up", x.left(), 2);
        x.put(1, 3);
        due("the last is the third", x.left(), 3);
        x.put(0, 3);
        due("two there, two ahead of them", x.left(), 3);
    }

    static void promise17_ordersByOthers() {
        BalancedLine x = Edges.laid("c9;t3;t3;t3;pab;pbc;");
        x.put(0, 5);
        x.put(2, 5);
        due("b with both", x.left(), 5);
        x.put(2, 4);
        due("c ahead of a", x.left(), NONE);
        x.put(2, 6);
        due("b with either", x.left(), 6);
        BalancedLine y = Edges.laid("c9;t3;t4;t3;pab;pbc;");
        y.put(0, 5);
        y.put(2, 5);
        due("no room for b", y.left(), NONE);
        y.put(2, 6);
        due("room with either", y.left(), 6);
    }

    static void promise17_joinedOnes() {
        BalancedLine x = Edges.laid("c9;t3;t3;t3;jab;jbc;");
        x.put(0, 2);
        x.put(2, 2);
        due("b with both", x.left(), 2);
        x.put(2, 3);
        due("b with neither", x.left(), NONE);
    }

    static void promise17_asItStandsThen() {
        BalancedLine x = Edges.laid("c10;t5;t5;t5;");
        due("nothing put", x.left(), 2);
        x.put(0, 3);
        due("put", x.left(), 3);
        x.put(0, 4);
        due("elsewhere", x.left(), 4);
        x.off(0);
        due("off", x.left(), 2);
        x.cycle(5);
        due("by five", x.left(), 3);
        x.time(0, 6);
        due("too long", x.left(), NONE);
        x.undo();
        due("undone", x.left(), 3);
        x.adopt();
        due("adopted", x.left(), 3);
        due("the line itself is as ahead", x.fewest(), 3);
    }

    static void promise17_askingLeavesAll() {
        Edges.refused("left()", x -> x.left(), 12);
        Edges.leavesAll("left() of none", () -> {
            BalancedLine x = Edges.busy();
            x.time(2, 13);
            return x;
        }, x -> x.left(), NONE);
    }

    // ---- 18: THE BEST is PUT, in place of all that was (a change, also if all was so): how many STATIONS. NONE.

    static void promise18_oneTaskToTwelve() {
        for (int n = 1; n <= 12; n++) {
            BalancedLine x = Edges.laid(Edges.alike(5, n, 5));
            due("adopt", x.adopt(), n);
            due("put", x.count(5), n);
            for (int t = 0; t < n; t++) {
                due("where " + t, x.where(t), t + 1);
            }
            due("nothing is left of the cycle", x.count(11), 0);
        }
        BalancedLine y = Edges.laid(Edges.alike(60, 12, 5));
        due("all in one", y.adopt(), 1);
        due("station 1", y.station(1, 0), 4095);
    }

    static void promise18_inPlaceOfAllThatWas() {
        BalancedLine x = Edges.laid("c9;t5;t5;");
        x.put(0, 12);
        x.put(1, 11);
        due("adopt", x.adopt(), 2);
        due("a", x.where(0), 1);
        due("b", x.where(1), 2);
        due("station 12", x.station(12, 0), 0);
        due("stations", x.count(6), 2);
        due("undo", x.undo(), 2);
        due("a as ahead", x.where(0), 12);
        due("b as ahead", x.where(1), 11);
    }

    static void promise18_aChangeAlsoIfAllWasSo() {
        BalancedLine x = Edges.laid("c9;t5;t5;");
        x.adopt();
        due("one", x.count(8), 1);
        due("adopt", x.adopt(), 2);
        due("two", x.count(8), 2);
        BalancedLine y = Edges.laid("c9;t5;");
        y.put(0, 1);
        due("as by hand", y.adopt(), 1);
        due("two, too", y.count(8), 2);
        due("undo", y.undo(), 1);
        due("put by hand", y.where(0), 1);
    }

    static void promise18_oneChangeOnly() {
        BalancedLine x = new BalancedLine();
        x.adopt();
        due("changes", x.count(8), 1);
        due("undo", x.undo(), 0);
        due("put", x.count(5), 0);
    }

    static void promise18_noLine() {
        due("a task too long", Edges.laid("c9;t10;").adopt(), NONE);
        due("joined and apart", Edges.laid("c9;t1;t1;t1;jab;jbc;xac;").adopt(), NONE);
        BalancedLine x = Edges.laid("c9;t9;");
        due("just the cycle", x.adopt(), 1);
        x.time(0, 10);
        due("one more", x.adopt(), NONE);
        due("taken off, and not put", x.count(5), 0);
    }

    static void promise18_refusedLeavesAll() {
        Edges.leavesAll("adopt() without a line", () -> {
            BalancedLine x = Edges.busy();
            x.time(2, 13);
            return x;
        }, x -> x.adopt(), NONE);
        Edges.leavesAll("adopt() without a line and without a change", () -> Edges.laid("c9;t10;t1;t1;pab;"), x -> x.adopt(), NONE);
    }

    static void promise18_whatIsPutHasNoWhyNot() {
        BalancedLine x = Edges.busy();
        due("adopt", x.adopt(), x.fewest());
        for (int t = 0; t < 5; t++) {
            due("where", x.where(t), x.best(t));
            due("why", x.why(t, x.where(t)), 0);
        }
        due("left", x.left(), x.fewest());
    }
}
