/** The cases at the edges of promises 37 to 44: the best of small WAYS, the WAY as a text, CASTS. */
final class EdgesOfWaysTest {
    private static final int NONE = BentPenny.NONE;
    private static final int[] OFF = {Cases.LEAST, Cases.LEAST + 1, -1000, -2, 1000, 1 << 30, Cases.GREATEST};
    private static final String FAIR = "coin q 1 2;end x;end y;";

    public static void main(String[] args) {
        Cases.runAll(EdgesOfWaysTest.class);
    }

    // ---- Promise 37: best ----

    private static void best(String table, String way, int nodes, long above, long below) {
        BentPenny x = Bench.withTable(table);
        Cases.due("best() of " + table, x.best(), nodes);
        Cases.fraction("its MEAN", x, (o, what) -> o.bestMean(what), above, below);
        Cases.due("take()", x.take(), true);
        Cases.due("NODES", x.count(2), nodes);
        Cases.due("deep()", x.deep(), nodes == 3 ? 1 : 2);
        Cases.written(x, way);
        Cases.fraction("CHANCE of END 0", x, (o, what) -> o.chance(0, what), 1, 2);
        Cases.fraction("CHANCE of END 1", x, (o, what) -> o.chance(1, what), 1, 2);
        Cases.fraction("MEAN by it", x, (o, what) -> o.mean(1, 2, what), above, below);
    }

    private static void noBest(String table) {
        Cases.refused(() -> Cases.told(table, "again"), "best() of " + table, x -> x.best(), NONE);
    }

    static void promise37_best_ofThreeNodes() {
        best(FAIR, "q(x:y)", 3, 1, 1);
        best("coin q 4 8;end x;end y;", "q(x:y)", 3, 1, 1);
    }

    static void promise37_best_ofFiveNodes() {
        best("coin a 1 5;coin b 1 4;end x;end y;", "a(x:b(y:again))", 5, 9, 2);
        best("coin a 2 3;coin b 1 4;end x;end y;", "a(b(x:y):x)", 5, 5, 3);
    }

    static void promise37_best_ofSevenNodes() {
        best("coin q 1 6;end x;end y;", "q(q(again:x):q(y:again))", 7, 36, 5);
        best("coin q 1 9;end x;end y;", "q(q(again:x):q(y:again))", 7, 81, 8);
        best("coin q 8 9;end x;end y;", "q(q(again:x):q(y:again))", 7, 81, 8);
    }

    static void promise37_best_ofLikeOnesTheFirstCoin() {
        best("coin q 2 4;coin p 1 2;end x;end y;", "q(x:y)", 3, 1, 1);
        best("coin p 1 3;coin q 2 4;coin r 1 2;end x;end y;", "q(x:y)", 3, 1, 1);
    }

    static void promise37_best_ofLikeOnesTheFirstByHeadThenTail() {
        best("coin q 1 3;end x;end y;", "q(q(again:x):q(x:y))", 7, 9, 4);
        best("coin q 2 3;end x;end y;", "q(q(x:y):q(y:again))", 7, 9, 4);
    }

    static void promise37_best_ofLikeOnesTheFirstByEachStep() {
        // as good: b(y:again) for END 1 ahead of END 0
        best("coin a 5 8;coin b 3 5;end x;end y;", "a(b(x:again):y)", 5, 13, 6);
        // as good: b for the first coin, and y ahead of x
        best("coin a 5 7;coin b 5 8;coin c 1 8;end x;end y;", "a(b(x:y):b(y:again))", 7, 56, 25);
        // as good: c, the later coin
        best("coin a 5 8;coin b 2 5;coin c 3 5;end x;end y;", "a(b(again:x):y)", 5, 13, 6);
        // as good: a(a(again:x):a(y:again)), by AGAIN ahead of END 0
        best("coin a 1 4;coin b 5 6;end x;end y;", "a(a(x:y):b(again:x))", 7, 16, 3);
    }

    static void promise37_best_thirdsOfAnotherCoin() {
        best("coin a 1 8;coin b 4 7;end x;end y;", "b(a(x:y):x)", 5, 11, 7);
    }

    static void promise37_best_coinsThatAlwaysFallAlike() {
        noBest("coin q 0 2;end x;end y;");
        noBest("coin q 9 9;coin r 0 3;end x;end y;");
        best("coin z 0 2;coin q 1 2;end x;end y;", "q(x:y)", 3, 1, 1);
    }

    static void promise37_best_withoutClosedCoins() {
        noBest("end x;end y;");
        noBest("wheel w 1 1;end x;end y;");
        noBest("coin p open;end x;end y;");
        noBest("coin p open;wheel w 1 1;end x;end y;");
        Cases.refused(Cases::fresh, "best()", x -> x.best(), NONE);
    }

    static void promise37_best_openOnesAndWheelsAreLeftOut() {
        best("coin p open;wheel w 1 1;coin q 1 2;end x;end y;", "q(x:y)", 3, 1, 1);
        best("wheel w 1 1;coin q 1 3;coin p open;end x;end y;", "q(q(again:x):q(x:y))", 7, 9, 4);
    }

    static void promise37_best_fewerThanTwoEnds() {
        noBest("coin q 1 2;end x;");
        noBest("coin q 1 2;");
    }

    static void promise37_best_moreThanTwoEnds() {
        best("coin q 1 2;end x;end y;end z;", "q(x:y)", 3, 1, 1);
        best("end a;end b;end c;end d;end e;end f;coin q 1 2;", "q(a:b)", 3, 1, 1);
    }

    static void promise37_best_leavesTheWay() {
        BentPenny x = Bench.withWay(Bench.TABLE, "x");
        x.best();
        Cases.due("NODES", x.count(2), 1);
        Cases.due("the tape", Bench.tape(x, "abc").count(4), 3);
        x.best();
        Cases.due("the tape stays", x.count(4), 3);
    }

    // ---- Promise 38: bestMean ----

    static void promise38_bestMean_aheadOfAny() {
        Cases.refused(Cases::fresh, "bestMean(0)", x -> x.bestMean(0), Cases.THROWS);
        BentPenny x = Bench.withTable("coin q 1 2;end x;");
        x.best();
        Cases.due("after NONE alone", x, o -> o.bestMean(0), Cases.THROWS);
        Cases.due("after NONE alone", x, o -> o.bestMean(1), Cases.THROWS);
        Bench.tape(x, FAIR).table();
        Cases.due("a TABLE that has one", x, o -> o.bestMean(0), Cases.THROWS);
    }

    static void promise38_bestMean_ofTheLatestThatWasNotNone() {
        BentPenny x = Bench.withTable("coin q 1 6;end x;end y;");
        x.best();
        x.table();
        Cases.due("best() of nothing", x.best(), NONE);
        Cases.fraction("bestMean", x, (o, what) -> o.bestMean(what), 36, 5);
        Bench.tape(x, FAIR).table();
        Cases.fraction("bestMean ahead of best()", x, (o, what) -> o.bestMean(what), 36, 5);
        x.best();
        Cases.fraction("bestMean", x, (o, what) -> o.bestMean(what), 1, 1);
    }

    static void promise38_bestMean_anotherWhat() {
        Cases.refused(Cases::full, "bestMean(2)", x -> x.bestMean(2), Cases.THROWS);
        Cases.refused(Cases::full, "bestMean(-1)", x -> x.bestMean(-1), Cases.THROWS);
        for (int what : OFF) {
            Cases.due("bestMean(" + what + ")", Cases.full(), x -> x.bestMean(what), Cases.THROWS);
        }
    }

    // ---- Promise 39: take ----

    static void promise39_take_aheadOfAny() {
        Cases.refused(Cases::fresh, "take()", x -> x.take() ? 1 : 0, 0);
        BentPenny x = Bench.withTable(FAIR);
        Cases.due("ahead of best()", x.take(), false);
        Cases.due("NODES", x.count(2), 0);
        Bench.tape(x, "coin q 1 2;end x;").table();
        x.best();
        Cases.due("after NONE alone", x.take(), false);
    }

    static void promise39_take_itIsTheWay() {
        BentPenny x = Bench.withTable("coin q 1 6;end x;end y;");
        x.best();
        Cases.due("NODES ahead of it", x.count(2), 0);
        Cases.due("take()", x.take(), true);
        int[][] due = {{2, 0, 1, 4}, {2, 0, 2, 3}, {1, NONE, NONE, NONE}, {0, 0, NONE, NONE}, {2, 0, 5, 6},
            {0, 1, NONE, NONE}, {1, NONE, NONE, NONE}, {NONE, NONE, NONE, NONE}};
        for (int k = 0; k < due.length; k++) {
            Cases.due("node " + k, x.node(k), due[k][0]);
            Cases.due("nodeOf " + k, x.nodeOf(k), due[k][1]);
            Cases.due("head of " + k, x.next(k, 0), due[k][2]);
            Cases.due("tail of " + k, x.next(k, 1), due[k][3]);
            Cases.due("SIDE 2 of " + k, x.next(k, 2), NONE);
        }
        Cases.due("deep()", x.deep(), 2);
    }

    static void promise39_take_ofThreeNodes() {
        BentPenny x = Bench.withWay(FAIR, "q(q(x:y):q(x:y))");
        x.best();
        x.take();
        Cases.due("deep()", x.deep(), 1);
        Cases.due("NODE 3", x.node(3), NONE);
        Cases.due("EVENING by it", Bench.tape(x, "q 1;so y;").evening(), NONE);
    }

    static void promise39_take_twice() {
        BentPenny x = Bench.withTable(FAIR);
        x.best();
        x.take();
        Bench.tape(x, "x").way();
        Cases.due("take()", x.take(), true);
        Cases.due("NODES", x.count(2), 3);
    }

    static void promise39_take_ofAnotherTable() {
        BentPenny x = Bench.withTable(FAIR);
        x.best();
        Bench.tape(x, "coin q 1 3;end x;end y;").table();
        Cases.due("take()", x.take(), false);
        Cases.due("NODES", x.count(2), 0);
        Bench.tape(x, "x").way();
        Cases.due("take()", x.take(), false);
        Cases.due("the WAY stays", x.count(2), 1);
    }

    static void promise39_take_ofATextReadAnew() {
        BentPenny x = Bench.withTable(FAIR);
        x.best();
        Bench.tape(x, FAIR).table();
        Cases.due("take()", x.take(), false);
        Cases.due("NODES", x.count(2), 0);
        x.best();
        Cases.due("take() after best()", x.take(), true);
    }

    static void promise39_take_aTableWithAFaultIsNoOther() {
        BentPenny x = Bench.withTable(FAIR);
        x.best();
        Bench.tape(x, FAIR + "%").table();
        Cases.due("take()", x.take(), true);
    }

    static void promise39_take_aLaterNoneLeavesIt() {
        BentPenny x = Bench.withTable(FAIR);
        x.image(0);
        x.best();
        Bench.tape(x, "coin q 1 2;end x;").table();
        Cases.due("best()", x.best(), NONE);
        Cases.due("take() in the other TABLE", x.take(), false);
        x.restore(0);
        Cases.due("take() in its own", x.take(), true);
    }

    static void promise39_take_ofATableRestored() {
        BentPenny x = Bench.withTable(FAIR);
        x.image(0);
        Bench.tape(x, FAIR).table();
        x.best();
        x.restore(0);
        Cases.due("the best of the later TABLE", x.take(), false);
        Cases.due("NODES", x.count(2), 0);
    }

    static void promise39_take_leavesTheSentence() {
        BentPenny x = Bench.withTable(FAIR);
        Bench.tape(x, "place=1").sentence();
        x.best();
        x.take();
        Cases.due("said", x.said(0), 1);
    }

    // ---- Promise 40: write ----

    private static void write(String table, String way) {
        Cases.written(Bench.withWay(table, way), way.replace(" ", "").replace("\n", ""));
    }

    static void promise40_write_ofOneNode() {
        write(Bench.TABLE, "x");
        write(Bench.TABLE, "again");
        write("", "again");
    }

    static void promise40_write_noBlanks() {
        write(Bench.TABLE, " q ( x\n: w ( y : again : x ) ) ");
    }

    static void promise40_write_bracketsOfOnesWithinOthers() {
        write(Bench.TABLE, "q(q(q(x:y):x):q(x:q(y:again)))");
        write(Bench.TABLE, "w(w(x:y:w(x:x:x)):q(q(x:x):q(y:q(x:again))):y)");
        write(Bench.TABLE, "q(x:q(x:q(x:q(x:q(x:q(x:y))))))");
        write(Bench.TABLE, "q(q(q(q(q(q(x:x):x):x):x):x):x)");
    }

    static void promise40_write_namesOfOneAndOfSixLetters() {
        write("coin zzzzzz 1 2;end aaaaaa;end a;end z;", "zzzzzz(aaaaaa:zzzzzz(a:z))");
        write("wheel azazaz 1 1 1;end b;end agains;", "azazaz(b:agains:again)");
    }

    /** 38 coins and a wheel of three SIDES make 80 NODES, each of six letters: no WAY has a longer text. */
    static void promise40_write_theLongest() {
        String two = "aaaaaa(bbbbbb:bbbbbb)";
        String four = "aaaaaa(" + two + ":" + two + ")";
        String eight = "aaaaaa(" + four + ":" + four + ")";
        String sixteen = "aaaaaa(" + eight + ":" + eight + ")";
        String nine = "wwwwww(" + four + ":" + four + ":bbbbbb)";
        String way = "aaaaaa(" + sixteen + ":aaaaaa(" + sixteen + ":" + nine + "))";
        BentPenny x = Bench.withWay("coin aaaaaa 1 2;wheel wwwwww 1 1 1;end bbbbbb;", way);
        Cases.due("NODES", x.count(2), 80);
        Cases.due("deep()", x.deep(), 6);
        Cases.due("bytes", way.length(), 598);
        Cases.written(x, way);
    }

    static void promise40_write_noWay() {
        Cases.refused(Cases::noWay, "write()", x -> x.write(), NONE);
        Cases.refused(Cases::fresh, "write()", x -> x.write(), NONE);
    }

    static void promise40_write_leavesTheTapeAndTheWay() {
        BentPenny x = Cases.full();
        x.write();
        Cases.due("the tape", x.count(4), 3);
        Cases.due("NODES", x.count(2), 6);
        Cases.due("fault()", x.fault(), 2);
    }

    // ---- Promise 41: byteAt ----

    static void promise41_byteAt_theFirstAndTheLast() {
        BentPenny x = Bench.withWay(Bench.TABLE, "q(x:y)");
        x.write();
        Cases.due("byte 0", x.byteAt(0), 'q');
        Cases.due("byte 5", x.byteAt(5), ')');
    }

    static void promise41_byteAt_noneSuch() {
        Cases.refused(Cases::full, "byteAt(17)", x -> x.byteAt(17), NONE);
        Cases.refused(Cases::full, "byteAt(-1)", x -> x.byteAt(-1), NONE);
        Cases.due("byteAt(16)", Cases.full().byteAt(16), ')');
        for (int i : OFF) {
            Cases.due("byteAt(" + i + ")", Cases.full().byteAt(i), NONE);
        }
    }

    static void promise41_byteAt_aheadOfAny() {
        Cases.refused(Cases::fresh, "byteAt(0)", x -> x.byteAt(0), NONE);
        BentPenny x = Bench.withTable(Bench.TABLE);
        x.write();
        Cases.due("after NONE alone", x.byteAt(0), NONE);
        Bench.tape(x, "x").way();
        Cases.due("ahead of write()", x.byteAt(0), NONE);
    }

    static void promise41_byteAt_ofTheTextMadeLast() {
        BentPenny x = Bench.withWay(Bench.TABLE, "q(x:y)");
        x.write();
        Bench.tape(x, "y").way();
        Cases.due("a new WAY", x.byteAt(0), 'q');
        x.write();
        Cases.due("its text", x.byteAt(0), 'y');
        Cases.due("its text alone", x.byteAt(1), NONE);
        x.table();
        Cases.due("no WAY", x.write(), NONE);
        Cases.due("the text stays", x.byteAt(0), 'y');
    }

    // ---- Promise 42: cast ----

    private static int draw(int x, int parts) {
        return (x >>> 8) % parts;
    }

    private static int following(int x) {
        return (int) ((x * 1103515245L + 12345L) & 0xffffffffL);
    }

    static void promise42_cast_seedsThatWrapAround() {
        for (int seed : new int[] {0, 1, -1, 2, 12345, Cases.LEAST, Cases.GREATEST, 1 << 30, -(1 << 30), 0x55555555}) {
            BentPenny x = Bench.withWay("coin q 4 9;end a;end b;", "q(a:b)");
            Cases.due("cast by " + seed, x.cast(1, seed), draw(following(seed), 9) < 4 ? 0 : 1);
            Cases.due("its throws", x.tosses(), 1);
        }
    }

    static void promise42_cast_drawsWithTheHighestBitAreNotBelow0() {
        int found = 0;
        for (int seed = 0; seed < 40; seed++) {
            if (following(seed) < 0) {
                found++;
                BentPenny x = Bench.withWay("wheel w 1 1 1 1 1 4;end a;end b;end c;end d;end e;end f;", "w(a:b:c:d:e:f)");
                Cases.due("cast by " + seed, x.cast(1, seed), Math.min(5, draw(following(seed), 9)));
            }
        }
        Cases.due("such seeds", found > 5, true);
    }

    static void promise42_cast_aCoinBelowKIsItsHead() {
        for (int seed = 0; seed < 30; seed++) {
            BentPenny x = Bench.withWay("coin q 3 7;end a;end b;", "q(a:b)");
            Cases.due("cast by " + seed, x.cast(400, seed), draw(following(seed), 7) < 3 ? 0 : 1);
        }
    }

    static void promise42_cast_aCoinThatAlwaysFallsAlike() {
        for (int seed = 0; seed < 10; seed++) {
            Cases.due("K of 0", Bench.withWay("coin q 0 2;end a;end b;", "q(a:b)").cast(1, seed), 1);
            Cases.due("K of M", Bench.withWay("coin q 9 9;end a;end b;", "q(a:b)").cast(1, seed), 0);
        }
    }

    static void promise42_cast_aWheelSideBySide() {
        int[] due = {0, 1, 1, 2, 2, 2};
        for (int seed = 0; seed < 30; seed++) {
            BentPenny x = Bench.withWay("wheel w 1 2 3;end a;end b;end c;", "w(a:b:c)");
            Cases.due("cast by " + seed, x.cast(1, seed), due[draw(following(seed), 6)]);
        }
    }

    static void promise42_cast_eachThrowDrawsAnew() {
        BentPenny x = Bench.withWay("coin q 1 2;wheel w 1 1 1;end a;end b;end c;", "q(w(a:b:c):w(c:b:a))");
        for (int seed = 0; seed < 20; seed++) {
            int first = draw(following(seed), 2);
            int second = draw(following(following(seed)), 3);
            Cases.due("cast by " + seed, x.cast(2, seed), first == 0 ? second : 2 - second);
            Cases.due("its throws", x.tosses(), 2);
        }
    }

    static void promise42_cast_nOf1() {
        BentPenny x = Bench.withWay("coin q 0 2;end a;end b;", "q(a:q(a:b))");
        Cases.due("not by then", x.cast(1, 5), NONE);
        Cases.due("its throws", x.tosses(), 1);
        Cases.due("by the second", x.cast(2, 5), 1);
        Cases.due("its throws", x.tosses(), 2);
    }

    static void promise42_cast_nOf400() {
        BentPenny x = Bench.withWay("coin q 0 2;end a;", "q(a:again)");
        Cases.due("not by then", x.cast(400, 5), NONE);
        Cases.due("its throws", x.tosses(), 400);
        Cases.due("nor by 399", x.cast(399, 5), NONE);
        Cases.due("its throws", x.tosses(), 399);
    }

    static void promise42_cast_nOf0And401() {
        Cases.refused(Cases::full, "cast(0, 1)", x -> x.cast(0, 1), -2);
        Cases.refused(Cases::full, "cast(401, 1)", x -> x.cast(401, 1), -2);
        Cases.refused(Cases::full, "cast(-1, 1)", x -> x.cast(-1, 1), -2);
        for (int n : OFF) {
            Cases.due("cast(" + n + ", 1)", Cases.full().cast(n, 1), -2);
        }
        Cases.due("an END alone", Bench.withWay(Bench.TABLE, "x").cast(0, 1), -2);
    }

    static void promise42_cast_theEndByTheLastThrowThatIsAllowed() {
        BentPenny x = Bench.withWay("coin q 9 9;end a;", "q(q(q(a:again):again):again)");
        Cases.due("by two", x.cast(2, 9), NONE);
        Cases.due("by three", x.cast(3, 9), 0);
        Cases.due("its throws", x.tosses(), 3);
    }

    /** How many throws a CAST by threeNinths() takes till it ends. */
    private static int tossesTillEnd(int seed) {
        int x = seed;
        int row = 0;
        int tosses = 0;
        while (row < 3) {
            x = following(x);
            row = draw(x, 9) < 1 ? row + 1 : 0;
            tosses++;
        }
        return tosses;
    }

    private static int seedThatTakes(int tosses) {
        int seed = 0;
        while (tossesTillEnd(seed) != tosses) {
            seed++;
        }
        return seed;
    }

    private static BentPenny threeNinths() {
        return Bench.withWay("coin q 1 9;end a;", "q(q(q(a:again):again):again)");
    }

    static void promise42_cast_whatEndsByThrow400And401() {
        int by400 = seedThatTakes(400);
        int by401 = seedThatTakes(401);
        BentPenny x = threeNinths();
        Cases.due("by throw 400", x.cast(400, by400), 0);
        Cases.due("its throws", x.tosses(), 400);
        Cases.due("by throw 399", x.cast(399, by400), NONE);
        Cases.due("its throws", x.tosses(), 399);
        Cases.due("not by throw 400", x.cast(400, by401), NONE);
        Cases.due("its throws", x.tosses(), 400);
    }

    static void promise44_casts_whatEndsByThrow400And401() {
        Cases.due("by throw 400", threeNinths().casts(1, seedThatTakes(400), 0), 1);
        Cases.due("by throw 401", threeNinths().casts(1, seedThatTakes(401), 0), 0);
    }

    static void promise42_cast_withoutAnyThrow() {
        BentPenny x = Bench.withWay(Bench.TABLE, "y");
        Cases.due("an END alone", x.cast(1, 1), 1);
        Cases.due("its throws", x.tosses(), 0);
        Bench.tape(x, "again").way();
        Cases.due("AGAIN alone", x.cast(400, 1), NONE);
        Cases.due("its throws", x.tosses(), 0);
    }

    static void promise42_cast_noWay() {
        Cases.refused(Cases::noWay, "cast(1, 1)", x -> x.cast(1, 1), -2);
        Cases.refused(Cases::fresh, "cast(1, 1)", x -> x.cast(1, 1), -2);
    }

    static void promise42_cast_anOpenCoin() {
        Cases.refused(Cases::opened, "cast(1, 1)", x -> x.cast(1, 1), -2);
        Cases.due("where no throw comes", Bench.withWay("coin q 0 2;coin p open;end x;", "q(p(x:x):x)").cast(1, 1), -2);
        Cases.due("in the TABLE alone", Bench.withWay(Bench.TABLE, "q(x:x)").cast(1, 1), 0);
    }

    // ---- Promise 43: tosses ----

    static void promise43_tosses_aheadOfAny() {
        Cases.refused(Cases::fresh, "tosses()", x -> x.tosses(), NONE);
        BentPenny x = Bench.withTable(Bench.TABLE);
        x.cast(1, 1);
        Cases.due("after -2 alone", x.tosses(), NONE);
        Bench.tape(x, Cases.CLOSED_WAY).way();
        x.casts(10, 1, 0);
        Cases.due("after CASTS alone", x.tosses(), NONE);
    }

    static void promise43_tosses_ofTheLatestThatWasNotMinus2() {
        BentPenny x = Bench.withWay("coin q 9 9;end a;", "q(q(q(a:again):again):again)");
        x.cast(400, 1);
        Cases.due("three", x.tosses(), 3);
        x.cast(0, 1);
        x.cast(401, 1);
        Cases.due("after -2", x.tosses(), 3);
        x.cast(2, 1);
        Cases.due("not by then", x.tosses(), 2);
        x.casts(200, 1, 0);
        Cases.due("after CASTS", x.tosses(), 2);
        x.table();
        x.cast(1, 1);
        Cases.due("without a WAY", x.tosses(), 2);
    }

    // ---- Promise 44: casts ----

    private static int came(String table, String way, int n, int seed, int end) {
        int came = 0;
        for (int i = 0; i < n; i++) {
            came += Bench.withWay(table, way).cast(400, seed + i) == end ? 1 : 0;
        }
        return came;
    }

    static void promise44_casts_nOf1() {
        String table = "coin q 4 9;end a;end b;";
        for (int seed = 0; seed < 10; seed++) {
            int end = draw(following(seed), 9) < 4 ? 0 : 1;
            Cases.due("to END 0", Bench.withWay(table, "q(a:b)").casts(1, seed, 0), 1 - end);
            Cases.due("to END 1", Bench.withWay(table, "q(a:b)").casts(1, seed, 1), end);
        }
    }

    static void promise44_casts_nOf200() {
        BentPenny x = Bench.withWay(Bench.TABLE, Cases.CLOSED_WAY);
        int first = x.casts(200, 77, 0);
        Cases.due("to END 0", first, came(Bench.TABLE, Cases.CLOSED_WAY, 200, 77, 0));
        Cases.due("to END 1", x.casts(200, 77, 1), 200 - first);
        Cases.due("always", Bench.withWay(Bench.TABLE, "x").casts(200, 1, 0), 200);
        Cases.due("never", Bench.withWay(Bench.TABLE, "x").casts(200, 1, 1), 0);
    }

    static void promise44_casts_seedsThatWrapAround() {
        String table = "coin q 4 9;end a;end b;";
        Cases.due("from the greatest", Bench.withWay(table, "q(a:b)").casts(20, Cases.GREATEST - 9, 0),
                came(table, "q(a:b)", 20, Cases.GREATEST - 9, 0));
        Cases.due("from the least", Bench.withWay(table, "q(a:b)").casts(20, Cases.LEAST, 0),
                came(table, "q(a:b)", 20, Cases.LEAST, 0));
        Cases.due("from below 0", Bench.withWay(table, "q(a:b)").casts(20, -10, 0), came(table, "q(a:b)", 20, -10, 0));
    }

    static void promise44_casts_of400ThrowsAtMost() {
        String table = "coin q 1 9;end a;";
        String way = "q(q(q(a:again):again):again)";
        BentPenny x = Bench.withWay(table, way);
        int many = 0;
        for (int seed = 0; seed < 100; seed++) {
            many += x.cast(400, seed) == 0 ? 1 : 0;
        }
        Cases.due("casts()", x.casts(100, 0, 0), many);
        Cases.due("some do not end by then", many > 0 && many < 100, true);
        Cases.due("none", Bench.withWay("coin q 0 2;end a;", "q(a:again)").casts(200, 1, 0), 0);
        Cases.due("AGAIN alone", Bench.withWay(Bench.TABLE, "again").casts(200, 1, 0), 0);
    }

    static void promise44_casts_nOf0And201() {
        Cases.refused(Cases::full, "casts(0, 1, 0)", x -> x.casts(0, 1, 0), NONE);
        Cases.refused(Cases::full, "casts(201, 1, 0)", x -> x.casts(201, 1, 0), NONE);
        Cases.refused(Cases::full, "casts(-1, 1, 0)", x -> x.casts(-1, 1, 0), NONE);
        for (int n : OFF) {
            Cases.due("casts(" + n + ", 1, 0)", Cases.full().casts(n, 1, 0), NONE);
        }
    }

    static void promise44_casts_noSuchEnd() {
        Cases.refused(Cases::full, "casts(1, 1, 2)", x -> x.casts(1, 1, 2), NONE);
        Cases.refused(Cases::full, "casts(1, 1, -1)", x -> x.casts(1, 1, -1), NONE);
        Cases.due("NONE where no CAST ends", Bench.withWay(Bench.TABLE, "again").casts(1, 1, NONE), NONE);
        for (int end : OFF) {
            Cases.due("casts(1, 1, " + end + ")", Cases.full().casts(1, 1, end), NONE);
        }
    }

    static void promise44_casts_noWayAndAnOpenCoin() {
        Cases.refused(Cases::noWay, "casts(1, 1, 0)", x -> x.casts(1, 1, 0), NONE);
        Cases.refused(Cases::opened, "casts(1, 1, 0)", x -> x.casts(1, 1, 0), NONE);
        Cases.refused(Cases::fresh, "casts(1, 1, 0)", x -> x.casts(1, 1, 0), NONE);
    }

    static void promise44_casts_changeNothing() {
        Cases.refused(Cases::full, "casts(200, 77, 0)", x -> x.casts(200, 77, 0),
                Bench.withWay(Bench.TABLE, Cases.CLOSED_WAY).casts(200, 77, 0));
    }
}
