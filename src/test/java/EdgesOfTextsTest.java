/** The cases at the edges of promises 1 to 13: a new object, the tape, the TABLE and the WAY as they are read. */
final class EdgesOfTextsTest {
    private static final int NONE = BentPenny.NONE;
    private static final int[] OFF = {Cases.LEAST, Cases.LEAST + 1, -1000, -2, -1, 1000, 1 << 30, Cases.GREATEST};

    public static void main(String[] args) {
        Cases.runAll(EdgesOfTextsTest.class);
    }

    // ---- Promise 1: a new object ----

    static void promise1_new_noneIsMinus1() {
        Cases.due("NONE", BentPenny.NONE, -1);
    }

    static void promise1_new_anEmptyTable() {
        BentPenny x = new BentPenny();
        int[] due = {0, 0, 0, NONE, 0};
        for (int what = 0; what < due.length; what++) {
            Cases.due("count " + what, x.count(what), due[what]);
        }
        Cases.due("thing", x, o -> o.thing(0, 0), Cases.THROWS);
        Cases.due("side", x.side(0, 0), NONE);
        Cases.due("share", x.share(0, 0), NONE);
        Cases.due("mixed", x, o -> o.mixed(1, 0, 0), Cases.THROWS);
        Cases.due("nearest", x.nearest(0, 0), NONE);
        Cases.due("off", x, o -> o.off(0, 0), Cases.THROWS);
        Cases.due("fewest", x, o -> o.fewest(0), Cases.THROWS);
        Cases.due("best", x.best(), NONE);
        Cases.due("a NAME not told", Bench.tape(x, "x").way(), -1);
        Cases.due("its FAULT", x.fault(), 3);
    }

    static void promise1_new_anEmptyTape() {
        Cases.due("bytes", new BentPenny().count(4), 0);
        Cases.due("a TABLE of it", new BentPenny().table(), 0);
        Cases.due("PAIRS of it", new BentPenny().pairs(), 0);
        Cases.due("a WAY of it", new BentPenny().way(), -1);
        Cases.due("a SENTENCE of it", new BentPenny().sentence(), -1);
    }

    static void promise1_new_noWayAndNothingTold() {
        BentPenny x = new BentPenny();
        Cases.due("node", x.node(0), NONE);
        Cases.due("nodeOf", x.nodeOf(0), NONE);
        Cases.due("next", x.next(0, 0), NONE);
        Cases.due("deep", x.deep(), 0);
        Cases.due("fault", x.fault(), 0);
        Cases.due("judged", x.judged(0), NONE);
        Cases.due("bit", x.bit(0), NONE);
        Cases.due("took", x.took(), NONE);
        Cases.due("tosses", x.tosses(), NONE);
        Cases.due("byteAt", x.byteAt(0), NONE);
        Cases.due("said", x.said(NONE), NONE);
        Cases.due("seldom", x, o -> o.seldom(0), Cases.THROWS);
        Cases.due("bestMean", x, o -> o.bestMean(0), Cases.THROWS);
        Cases.due("take", x.take(), false);
        Cases.due("restore", x.restore(0), false);
        Cases.due("restore", x.restore(1), false);
    }

    static void promise1_new_eachObjectIsItsOwn() {
        BentPenny full = Cases.full();
        BentPenny x = new BentPenny();
        Cases.due("THINGS", x.count(0), 0);
        Cases.due("NODES", x.count(2), 0);
        Cases.due("bytes", x.count(4), 0);
        Cases.due("THINGS of the other", full.count(0), 3);
    }

    static void promise1_calls_the512thToo() {
        BentPenny x = new BentPenny();
        for (int turn = 0; turn < 102; turn++) {
            x.feed(0x656e6420, 0x613b636f, 0x696e2071, 0x20312032, 0x3b000000);
            x.end(17);
            Cases.due("table()", x.table(), 2);
            x.end(0);
            x.image(0);
        }
        Cases.due("restore, the 511th", x.restore(0), true);
        Cases.due("THINGS, the 512th", x.count(0), 1);
    }

    // ---- Promise 2: feed ----

    static void promise2_feed_twentyBytesOfNothing() {
        BentPenny x = new BentPenny();
        Cases.due("feed", x.feed(0, 0, 0, 0, 0), 20);
        Cases.due("bytes", x.count(4), 20);
    }

    static void promise2_feed_theHighestByteFirst() {
        BentPenny x = new BentPenny();
        x.feed(0x68747474, 0x74687474, 0x74746874, 0x74747468, 0x74747474);
        x.end(16);
        // of 1820 rows it is the 1495th: 1024 less is 471, of nine BITS
        Cases.bits("counted()", x, x.counted(), "111010111");
        x.feed(0x68687474, 0, 0, 0, 0);
        x.end(4);
        Cases.due("RUNS", x.runs(), 2);
    }

    static void promise2_feed_eachOfTwentyBytesInItsPlace() {
        for (int place = 0; place < 20; place++) {
            String text = Cases.blanks(place) + "%" + Cases.blanks(19 - place);
            BentPenny x = Cases.withTape(text);
            Cases.due("the byte at " + place, x.table(), -1 - place);
        }
    }

    static void promise2_feed_bytesOf128AndMore() {
        BentPenny x = new BentPenny();
        Cases.due("feed", x.feed(-1, Cases.LEAST, Cases.GREATEST, 0x80808080, 0xff7f80fe), 20);
        Cases.due("no TOKEN", x.table(), -1);
        x.feed(0xe8e8e8e8, 0, 0, 0, 0);
        x.end(2);
        Cases.due("no ROW", x.pairs(), NONE);
    }

    static void promise2_feed_comesBehindTheTape() {
        BentPenny x = Cases.withTape("end a;");
        Cases.due("feed", x.feed(0x656e6420, 0x623b656e, 0x6420633b, 0x656e6420, 0x643b2020), 26);
        Cases.due("LINES", x.table(), 4);
    }

    static void promise2_feed_to640() {
        BentPenny x = new BentPenny();
        for (int many = 20; many <= 640; many += 20) {
            Cases.due("feed", x.feed(0x20202020, 0x20202020, 0x20202020, 0x20202020, 0x20202020), many);
        }
        Cases.due("bytes", x.count(4), 640);
    }

    private static BentPenny taped(int bytes) {
        return Cases.withTape(Bench.times("h", bytes));
    }

    private static BentPenny fullTape(int bytes) {
        BentPenny x = Cases.full();
        x.end(0);
        return Bench.tape(x, Bench.times("h", bytes));
    }

    static void promise2_feed_moreThan640IsNoneAndNoneCome() {
        Cases.refused(() -> fullTape(640), "feed", x -> x.feed(1, 2, 3, 4, 5), NONE);
        Cases.refused(() -> fullTape(621), "feed", x -> x.feed(1, 2, 3, 4, 5), NONE);
    }

    static void promise2_feed_aFullTapeKeepsItsBytes() {
        BentPenny x = taped(640);
        Cases.due("feed", x.feed(0x74747474, 0x74747474, 0x74747474, 0x74747474, 0x74747474), NONE);
        x.end(60);
        Cases.due("RUNS", x.runs(), 1);
    }

    static void promise2_feed_from620FitsFrom621Not() {
        Cases.due("from 619", taped(619).feed(0, 0, 0, 0, 0), 639);
        Cases.due("from 620", taped(620).feed(0, 0, 0, 0, 0), 640);
        Cases.due("from 621", taped(621).feed(0, 0, 0, 0, 0), NONE);
        Cases.due("from 639", taped(639).feed(0, 0, 0, 0, 0), NONE);
        Cases.due("from 640", taped(640).feed(0, 0, 0, 0, 0), NONE);
    }

    static void promise2_feed_againOnceThereIsRoom() {
        BentPenny x = taped(640);
        x.feed(0, 0, 0, 0, 0);
        x.end(620);
        Cases.due("feed", x.feed(0, 0, 0, 0, 0), 640);
        x.pairs();
        Cases.due("feed on an empty tape", x.feed(0, 0, 0, 0, 0), 20);
    }

    // ---- Promise 3: end ----

    static void promise3_end_theFirstBytesAlone() {
        BentPenny x = Cases.withTape("hthtth");
        Cases.due("end(3)", x.end(3), true);
        Cases.due("bytes", x.count(4), 3);
        Cases.due("RUNS", x.runs(), 3);
    }

    static void promise3_end_allOfThem() {
        BentPenny x = taped(640);
        Cases.due("end(640)", x.end(640), true);
        Cases.due("bytes", x.count(4), 640);
    }

    static void promise3_end_noneOfThem() {
        BentPenny x = taped(640);
        Cases.due("end(0)", x.end(0), true);
        Cases.due("bytes", x.count(4), 0);
        Cases.due("end(0) of an empty tape", x.end(0), true);
    }

    static void promise3_end_oneMoreThanThereAre() {
        Cases.refused(Cases::full, "end(4)", x -> x.end(4) ? 1 : 0, 0);
        Cases.due("of a full tape", taped(640).end(641), false);
        Cases.due("of an empty tape", new BentPenny().end(1), false);
    }

    static void promise3_end_below0() {
        Cases.refused(Cases::full, "end(-1)", x -> x.end(-1) ? 1 : 0, 0);
        Cases.due("of an empty tape", new BentPenny().end(-1), false);
    }

    static void promise3_end_farOff() {
        for (int n : OFF) {
            Cases.refused(Cases::full, "end(" + n + ")", x -> x.end(n) ? 1 : 0, 0);
        }
    }

    static void promise3_end_whatWasCutIsGone() {
        BentPenny x = Cases.withTape("hhhh");
        x.end(2);
        Cases.due("end(4)", x.end(4), false);
        Bench.tape(x, "tt");
        Cases.due("bytes", x.count(4), 4);
        Cases.due("RUNS", x.runs(), 2);
    }

    static void promise3_end_whatWasCutIsReadByNoCall() {
        BentPenny x = Cases.withTape("end xend y;");
        x.end(5);
        Cases.due("a TABLE cut within a WORD", x.table(), -1 - 5);
        Bench.tape(x, "end x;coin q 1 23;").end(16);
        Cases.due("a TABLE cut within a NUMBER", x.table(), -1 - 16);
        x.feed(0x656e6420, 0x783b6161, 0x61616161, 0x61616161, 0x61616161);
        x.end(6);
        Cases.due("a TABLE", x.table(), 1);
        Bench.tape(x, "xxxxxxxxxx").end(1);
        Cases.due("a WAY", x.way(), 1);
        Bench.tape(x, "so x;so x;").end(5);
        Cases.due("an EVENING", x.evening(), NONE);
        Bench.tape(x, "place<9999").end(8);
        Cases.due("a SENTENCE", x.sentence(), 1);
        Bench.tape(x, "htxxxx").end(2);
        Cases.due("a ROW", x.pairs(), 1);
    }

    // ---- Promise 4: table ----

    static void promise4_table_howManyLines() {
        Cases.lines("", 0);
        Cases.lines("end a;", 1);
        Cases.lines("end a;end b;end c;end d;end e;end f;coin g open;coin h 1 2;wheel i 1 1;", 9);
    }

    static void promise4_table_theTapeIsEmptyThen() {
        BentPenny x = Cases.withTape("end a;");
        x.table();
        Cases.due("bytes", x.count(4), 0);
        Cases.due("end(1)", x.end(1), false);
    }

    static void promise4_table_withAFaultTheTapeIsEmptyToo() {
        BentPenny x = Cases.withTape("end a;%" + Cases.blanks(600));
        x.table();
        Cases.due("bytes", x.count(4), 0);
    }

    static void promise4_table_withAFaultItStays() {
        Cases.tableFault("end n;coin m 1 2;%", 17, 1);
        Cases.tableFault("wheel v 1 1 1;end n 1 2;end m 3 2;", 32, 2);
        Cases.tableFault("%", 0, 1);
        Cases.tableFault("coin r open;coin p open;", 19, 3);
        Cases.tableFault("coin r 1 2;end r;", 15, 3);
    }

    static void promise4_table_withAFaultAtItsVeryEndItStays() {
        Cases.tableFault(Cases.padded("end n;coin m 1 2;", 501, ""), 500, 1);
    }

    static void promise4_table_aNewOneForgetsTheOldOne() {
        BentPenny x = Bench.withTable("end a 1 2;end b 3 4;coin q 1 2;wheel w 1 2 3 1 1 1;coin p open;");
        Bench.tape(x, "wheel v 4 5;end c;").table();
        Cases.due("THINGS", x.count(0), 1);
        Cases.due("ENDS", x.count(1), 1);
        Cases.due("the open coin", x.count(3), NONE);
        Cases.due("share", x.share(0, 0), NONE);
        Cases.due("share of END 1", x.share(1, 0), NONE);
        Cases.due("SIDES", x.thing(0, 0), 2);
        Cases.due("parts", x.thing(0, 1), 9);
        Cases.due("SIDE 2", x.side(0, 2), NONE);
        Cases.due("THING 1", x, o -> o.thing(1, 0), Cases.THROWS);
        Cases.due("a NAME of the old one", Bench.tape(x, "a").way(), -1);
    }

    // ---- Promise 5: fault ----

    static void promise5_fault_0AheadOfAny() {
        Cases.due("fault()", new BentPenny().fault(), 0);
        BentPenny x = new BentPenny();
        x.pairs();
        x.evening();
        Cases.due("fault()", x.fault(), 0);
    }

    static void promise5_fault_eachKind() {
        BentPenny x = Bench.withTable(Bench.TABLE);
        Bench.tape(x, "%").way();
        Cases.due("1", x.fault(), 1);
        Bench.tape(x, "coin a 3 2;").table();
        Cases.due("2", x.fault(), 2);
        Bench.tape(x, "z").way();
        Cases.due("3", x.fault(), 3);
        Bench.tape(x, "wheel v 1 1 1 1 1 1 1;").table();
        Cases.due("4", x.fault(), 4);
        Bench.tape(x, "q(x)").way();
        Cases.due("5", x.fault(), 5);
    }

    static void promise5_fault_0AfterOneWithout() {
        BentPenny x = Bench.withWay(Bench.TABLE, "z");
        Cases.due("way()", x.fault(), 3);
        Bench.tape(x, "x").way();
        Cases.due("way() without", x.fault(), 0);
        Bench.tape(x, "z 0;").evening();
        Cases.due("evening()", x.fault(), 3);
        Bench.tape(x, "so y;").evening();
        Cases.due("evening() without", x.fault(), 0);
        Bench.tape(x, "like z").sentence();
        Cases.due("sentence()", x.fault(), 3);
        Bench.tape(x, "comes").sentence();
        Cases.due("sentence() without", x.fault(), 0);
        Bench.tape(x, "coin a 3 2;").table();
        Cases.due("table()", x.fault(), 2);
        x.table();
        Cases.due("table() without", x.fault(), 0);
    }

    static void promise5_fault_eveningWithoutAWayLeavesIt() {
        BentPenny x = Bench.withTable("end a 2 1;");
        Cases.due("evening()", Bench.tape(x, "%").evening(), -1000);
        Cases.due("fault()", x.fault(), 2);
        Cases.due("evening()", Bench.tape(x, "").evening(), -1000);
        Cases.due("fault()", x.fault(), 2);
    }

    static void promise5_fault_eveningWithoutAWayLeavesNoneToo() {
        BentPenny x = Bench.withTable(Bench.TABLE);
        Cases.due("evening()", Bench.tape(x, "%").evening(), -1000);
        Cases.due("fault()", x.fault(), 0);
    }

    static void promise5_fault_otherCallsLeaveIt() {
        BentPenny x = Cases.full();
        x.pairs();
        Bench.tape(x, "x").spared();
        x.pasts();
        x.counted();
        x.shared();
        x.runs();
        x.best();
        x.take();
        x.write();
        x.cast(1, 1);
        x.image(0);
        x.restore(1);
        x.feed(0, 0, 0, 0, 0);
        x.end(0);
        Cases.due("fault()", x.fault(), 2);
    }

    // ---- Promise 6: thing ----

    static void promise6_thing_theLeastAndTheMostSides() {
        BentPenny x = Bench.withTable("wheel v 1 1;wheel w 1 1 1 1 1 1;coin q 1 2;");
        Cases.due("two", x.thing(0, 0), 2);
        Cases.due("six", x.thing(1, 0), 6);
        Cases.due("a coin's", x.thing(2, 0), 2);
    }

    static void promise6_thing_theLeastAndTheMostParts() {
        BentPenny x = Bench.withTable("coin a 0 2;coin b 9 9;wheel w 1 1;");
        Cases.due("two", x.thing(0, 1), 2);
        Cases.due("nine", x.thing(1, 1), 9);
        Cases.due("a wheel's", x.thing(2, 1), 2);
        Cases.due("nine of a wheel", Bench.withTable("wheel w 1 1 1 1 1 4;").thing(0, 1), 9);
    }

    static void promise6_thing_anOpenCoinHas0Parts() {
        BentPenny x = Bench.withTable("coin q 1 2;wheel w 1 1;coin p open;");
        Cases.due("SIDES", x.thing(2, 0), 2);
        Cases.due("parts", x.thing(2, 1), 0);
        Cases.due("open", x.thing(2, 2), 1);
        Cases.due("another coin", x.thing(0, 2), 0);
        Cases.due("a wheel", x.thing(1, 2), 0);
    }

    static void promise6_thing_noSuchThing() {
        Cases.refused(Cases::full, "thing(3, 0)", x -> x.thing(3, 0), Cases.THROWS);
        Cases.refused(Cases::full, "thing(-1, 0)", x -> x.thing(-1, 0), Cases.THROWS);
        Cases.refused(Cases::noShares, "thing(2, 0)", x -> x.thing(2, 0), Cases.THROWS);
        Cases.refused(Cases::fresh, "thing(0, 0)", x -> x.thing(0, 0), Cases.THROWS);
        for (int t : OFF) {
            Cases.due("thing(" + t + ", 1)", Cases.full(), x -> x.thing(t, 1), Cases.THROWS);
        }
    }

    static void promise6_thing_noSuchWhat() {
        Cases.refused(Cases::full, "thing(0, 3)", x -> x.thing(0, 3), Cases.THROWS);
        Cases.refused(Cases::full, "thing(0, -1)", x -> x.thing(0, -1), Cases.THROWS);
        for (int what : OFF) {
            Cases.due("thing(1, " + what + ")", Cases.full(), x -> x.thing(1, what), Cases.THROWS);
        }
    }

    // ---- Promise 7: side ----

    static void promise7_side_ofNoughtPartsAndOfNine() {
        BentPenny x = Bench.withTable("coin a 0 9;coin b 9 9;");
        Cases.due("no head", x.side(0, 0), 0);
        Cases.due("tail alone", x.side(0, 1), 9);
        Cases.due("head alone", x.side(1, 0), 9);
        Cases.due("no tail", x.side(1, 1), 0);
    }

    static void promise7_side_ofAnOpenCoinIs0() {
        BentPenny x = Bench.withTable("coin p open;");
        Cases.due("head", x.side(0, 0), 0);
        Cases.due("tail", x.side(0, 1), 0);
        Cases.due("no SIDE 2", x.side(0, 2), NONE);
    }

    static void promise7_side_theLastOfSix() {
        BentPenny x = Bench.withTable("wheel v 1 1;wheel w 1 1 1 1 1 4;");
        Cases.due("SIDE 5", x.side(1, 5), 4);
        Cases.due("SIDE 6", x.side(1, 6), NONE);
        Cases.due("SIDE 1 of two", x.side(0, 1), 1);
        Cases.due("SIDE 2 of two", x.side(0, 2), NONE);
    }

    static void promise7_side_noSuchOnes() {
        int[][] none = {{-1, 0}, {3, 0}, {1, -1}, {1, 2}, {2, 3}, {0, 2}, {-1, -1}, {3, 3}};
        for (int[] at : none) {
            Cases.refused(Cases::full, "side(" + at[0] + ", " + at[1] + ")", x -> x.side(at[0], at[1]), NONE);
        }
        Cases.refused(Cases::fresh, "side(0, 0)", x -> x.side(0, 0), NONE);
        for (int far : OFF) {
            Cases.due("side(" + far + ", 0)", Cases.full().side(far, 0), NONE);
            Cases.due("side(2, " + far + ")", Cases.full().side(2, far), NONE);
        }
    }

    // ---- Promise 8: share ----

    static void promise8_share_theLeastAndTheGreatest() {
        BentPenny x = Bench.withTable("end a 0 1;end b 20 20;end c;end d 1 1;end e 0 20;end f 19 20;");
        int[][] due = {{0, 1}, {20, 20}, {NONE, NONE}, {1, 1}, {0, 20}, {19, 20}};
        for (int e = 0; e < due.length; e++) {
            Cases.due("K of " + e, x.share(e, 0), due[e][0]);
            Cases.due("M of " + e, x.share(e, 1), due[e][1]);
        }
    }

    static void promise8_share_noneIsTold() {
        Cases.refused(() -> Cases.told("end a;end b 1 2;", "a"), "share(0, 0)", x -> x.share(0, 0), NONE);
        Cases.refused(() -> Cases.told("end a;end b 1 2;", "a"), "share(0, 1)", x -> x.share(0, 1), NONE);
    }

    static void promise8_share_noSuchEnd() {
        Cases.refused(Cases::full, "share(2, 0)", x -> x.share(2, 0), NONE);
        Cases.refused(Cases::full, "share(-1, 0)", x -> x.share(-1, 0), NONE);
        Cases.refused(Cases::fresh, "share(0, 1)", x -> x.share(0, 1), NONE);
        Cases.due("a seventh", Bench.withTable("end a 1 2;end b 1 2;end c 1 2;end d 1 2;end e 1 2;end f 1 2;")
                .share(6, 1), NONE);
        for (int end : OFF) {
            Cases.due("share(" + end + ", 0)", Cases.full().share(end, 0), NONE);
        }
    }

    static void promise8_share_noSuchWhat() {
        Cases.refused(Cases::full, "share(0, 2)", x -> x.share(0, 2), NONE);
        Cases.refused(Cases::full, "share(0, -1)", x -> x.share(0, -1), NONE);
        for (int what : OFF) {
            Cases.due("share(1, " + what + ")", Cases.full().share(1, what), NONE);
        }
    }

    // ---- Promise 9: way ----

    static void promise9_way_howManyNodes() {
        Cases.nodes(Bench.TABLE, "x", 1);
        Cases.nodes(Bench.TABLE, "q(again:again)", 3);
        Cases.nodes(Bench.TABLE, "w(x:q(x:y):again)", 6);
    }

    static void promise9_way_theTapeIsEmptyThen() {
        BentPenny x = Bench.withTable(Bench.TABLE);
        Bench.tape(x, "x").way();
        Cases.due("bytes", x.count(4), 0);
        Bench.tape(x, "x x x").way();
        Cases.due("bytes after a FAULT", x.count(4), 0);
    }

    static void promise9_way_withAFaultItStays() {
        Cases.wayFault("q(y:w(y:y:y)", 12, 1);
        Cases.wayFault("p(p(p(p(p(p(p(x:x):x):x):x):x):x):x)", 12, 4);
        Cases.wayFault("q(y:y)%", 6, 1);
        Cases.wayFault("", 0, 1);
    }

    static void promise9_way_withAFaultNoneStaysNone() {
        Cases.refusedText(Cases::noWay, "q(x:y", "way()", x -> x.way(), -1 - 5, 1);
        Cases.refusedText(Cases::fresh, "x", "way()", x -> x.way(), -1, 3);
    }

    static void promise9_way_aNewOneForgetsTheOldOne() {
        BentPenny x = Bench.withWay(Bench.TABLE, "w(w(x:x:x):w(x:x:x):w(y:y:again))");
        Bench.tape(x, "q(y:x)").way();
        Cases.due("NODES", x.count(2), 3);
        Cases.due("deep()", x.deep(), 1);
        Cases.due("NODE 3", x.node(3), NONE);
        Cases.due("SIDE 2 of it", x.next(0, 2), NONE);
        Cases.due("SIDE 1 of it", x.next(0, 1), 2);
        Cases.due("NODE 1", x.nodeOf(1), 1);
    }

    static void promise9_way_aNewOneForgetsSixSides() {
        BentPenny x = Bench.withWay("wheel w 1 1 1 1 1 1;coin q 1 2;end a;", "w(w(a:a:a:a:a:a):a:a:a:a:a)");
        Bench.tape(x, "q(q(a:a):a)").way();
        for (int side = 2; side < 6; side++) {
            Cases.due("SIDE " + side + " of NODE 0", x.next(0, side), NONE);
            Cases.due("SIDE " + side + " of NODE 1", x.next(1, side), NONE);
        }
        Bench.tape(x, "a").way();
        for (int side = 0; side < 6; side++) {
            Cases.due("SIDE " + side + " of an END", x.next(0, side), NONE);
        }
    }

    // ---- Promises 10 to 13: node, nodeOf, next, deep ----

    private static final String MIXED_WAY = "p(w(again:x:q(x:y)):y)";

    private static BentPenny mixedWay() {
        return Cases.told(Bench.TABLE, MIXED_WAY);
    }

    static void promise10_node_eachSort() {
        BentPenny x = mixedWay();
        int[] due = {2, 2, 1, 0, 2, 0, 0, 0};
        for (int k = 0; k < due.length; k++) {
            Cases.due("node " + k, x.node(k), due[k]);
        }
    }

    static void promise10_node_noneSuch() {
        Cases.refused(EdgesOfTextsTest::mixedWay, "node(8)", x -> x.node(8), NONE);
        Cases.refused(EdgesOfTextsTest::mixedWay, "node(-1)", x -> x.node(-1), NONE);
        Cases.refused(Cases::noWay, "node(0)", x -> x.node(0), NONE);
        for (int k : OFF) {
            Cases.due("node(" + k + ")", mixedWay().node(k), NONE);
        }
    }

    static void promise11_nodeOf_eachSort() {
        BentPenny x = mixedWay();
        int[] due = {0, 2, NONE, 0, 1, 0, 1, 1};
        for (int k = 0; k < due.length; k++) {
            Cases.due("nodeOf " + k, x.nodeOf(k), due[k]);
        }
    }

    static void promise11_nodeOf_againIsNone() {
        Cases.due("AGAIN alone", Bench.withWay("", "again").nodeOf(0), NONE);
        Cases.refused(EdgesOfTextsTest::mixedWay, "nodeOf(2)", x -> x.nodeOf(2), NONE);
    }

    static void promise11_nodeOf_noneSuch() {
        Cases.refused(EdgesOfTextsTest::mixedWay, "nodeOf(8)", x -> x.nodeOf(8), NONE);
        Cases.refused(EdgesOfTextsTest::mixedWay, "nodeOf(-1)", x -> x.nodeOf(-1), NONE);
        Cases.refused(Cases::noWay, "nodeOf(0)", x -> x.nodeOf(0), NONE);
        for (int k : OFF) {
            Cases.due("nodeOf(" + k + ")", mixedWay().nodeOf(k), NONE);
        }
    }

    static void promise11_nodeOf_theLastEndAndTheLastThing() {
        BentPenny x = Bench.withWay("end a;end b;end c;end d;end e;end f;coin i 1 2;coin j 1 2;coin k 1 2;", "k(f:a)");
        Cases.due("THING", x.nodeOf(0), 2);
        Cases.due("END 5", x.nodeOf(1), 5);
        Cases.due("END 0", x.nodeOf(2), 0);
    }

    static void promise12_next_eachSide() {
        BentPenny x = mixedWay();
        int[][] due = {{0, 0, 1}, {0, 1, 7}, {1, 0, 2}, {1, 1, 3}, {1, 2, 4}, {4, 0, 5}, {4, 1, 6}};
        for (int[] at : due) {
            Cases.due("next(" + at[0] + ", " + at[1] + ")", x.next(at[0], at[1]), at[2]);
        }
    }

    static void promise12_next_theLastOfSixSides() {
        BentPenny x = Bench.withWay("wheel w 1 1 1 1 1 1;end a;", "w(a:a:w(a:a:a:a:a:a):a:a:a)");
        Cases.due("SIDE 5", x.next(0, 5), 12);
        Cases.due("SIDE 5 of the inner one", x.next(3, 5), 9);
        Cases.due("SIDE 6", x.next(0, 6), NONE);
        Cases.due("SIDE 6 of the inner one", x.next(3, 6), NONE);
        Cases.due("SIDE -1 of the inner one", x.next(3, -1), NONE);
    }

    static void promise12_next_ofThingsFarBehind() {
        String thirteen = "w(w(a:a:a:a:a:a):a:a:a:a:a)";
        BentPenny x = Bench.withWay("wheel w 1 1 1 1 1 1;end a;", "w(" + Bench.times(thirteen + ":", 5) + thirteen + ")");
        x.image(0);
        Bench.tape(x, "a").way();
        x.restore(0);
        for (int side = 0; side < 6; side++) {
            Cases.due("SIDE " + side + " of NODE 0", x.next(0, side), 1 + 13 * side);
            Cases.due("SIDE " + side + " of NODE 66", x.next(66, side), side == 0 ? 67 : 73 + side);
            Cases.due("SIDE " + side + " of NODE 67", x.next(67, side), 68 + side);
            Cases.due("SIDE " + side + " of NODE 78", x.next(78, side), NONE);
        }
    }

    static void promise12_next_itIsNoThing() {
        Cases.refused(EdgesOfTextsTest::mixedWay, "next of AGAIN", x -> x.next(2, 0), NONE);
        Cases.refused(EdgesOfTextsTest::mixedWay, "next of an END", x -> x.next(3, 0), NONE);
        Cases.refused(EdgesOfTextsTest::mixedWay, "next of the last END", x -> x.next(7, 1), NONE);
    }

    static void promise12_next_noneSuch() {
        int[][] none = {{8, 0}, {-1, 0}, {0, 2}, {0, -1}, {1, 3}, {1, 6}, {4, 2}};
        for (int[] at : none) {
            Cases.refused(EdgesOfTextsTest::mixedWay, "next(" + at[0] + ", " + at[1] + ")",
                    x -> x.next(at[0], at[1]), NONE);
        }
        Cases.refused(Cases::noWay, "next(0, 0)", x -> x.next(0, 0), NONE);
        for (int far : OFF) {
            Cases.due("next(" + far + ", 0)", mixedWay().next(far, 0), NONE);
            Cases.due("next(0, " + far + ")", mixedWay().next(0, far), NONE);
        }
    }

    static void promise13_deep_0WithoutAWay() {
        Cases.due("a new object", new BentPenny().deep(), 0);
        Cases.due("a new TABLE", Cases.noWay().deep(), 0);
    }

    static void promise13_deep_0OfAnEndOrAgain() {
        Cases.due("an END", Bench.withWay(Bench.TABLE, "x").deep(), 0);
        Cases.due("AGAIN", Bench.withWay(Bench.TABLE, "again").deep(), 0);
    }

    static void promise13_deep_atTheMost() {
        Cases.due("1", Bench.withWay(Bench.TABLE, "q(x:y)").deep(), 1);
        Cases.due("3", Bench.withWay(Bench.TABLE, MIXED_WAY).deep(), 3);
        Cases.due("the first SIDE deeper", Bench.withWay(Bench.TABLE, "q(q(q(x:y):x):q(x:y))").deep(), 3);
        Cases.due("6", Bench.withWay(Bench.TABLE, "q(x:q(x:q(x:q(x:q(x:q(x:y))))))").deep(), 6);
    }

    static void promise13_deep_withAFaultItStays() {
        BentPenny x = Bench.withWay(Bench.TABLE, "q(x:y)");
        Bench.tape(x, "q(q(q(x:y):x):z)").way();
        Cases.due("deep()", x.deep(), 1);
    }
}
