/** Promises 14 to 21, 37 to 39 and 42 to 44: chances by a WAY, EVENINGS, the best of small WAYS, CASTS. */
final class WaysTest {
    private static final int NONE = BentPenny.NONE;
    private static final Bench t = new Bench();
    private static final String EVEN = "p(p(again:x):p(y:again))";

    public static void main(String[] args) {
        promise14();
        promise15();
        promise16();
        greatNumbers();
        promise17();
        promises18And19();
        promise20();
        promise21();
        promise37();
        promise38();
        promise39();
        promises42And43();
        promise44();
        t.close("WaysTest");
    }

    private static BentPenny by(String way) {
        return Bench.withWay(Bench.TABLE, way);
    }

    private static void chance(BentPenny x, int end, long above, long below) {
        t.fraction("chance of " + end, () -> x.chance(end, 0), () -> x.chance(end, 1), above, below);
    }

    private static void chanceAt(BentPenny x, int end, int k, int m, long above, long below) {
        t.fraction("chanceAt of " + end + " by " + k + " of " + m,
                () -> x.chanceAt(end, k, m, 0), () -> x.chanceAt(end, k, m, 1), above, below);
    }

    private static void mean(BentPenny x, int k, int m, long above, long below) {
        t.fraction("mean by " + k + " of " + m, () -> x.mean(k, m, 0), () -> x.mean(k, m, 1), above, below);
    }

    private static void promise14() {
        BentPenny x = by("q(x:w(y:again:x))");
        chance(x, 0, 6, 7);
        chance(x, 1, 1, 7);
        chance(by("y"), 0, 0, 1);
        chance(by("y"), 1, 1, 1);
        chance(by("q(again:x)"), 0, 1, 1);
        t.none("END 2", () -> x.chance(2, 0));
        t.none("END -1", () -> x.chance(-1, 0));
        t.none("what 2", () -> x.chance(0, 2));
        t.none("what -1", () -> x.chance(0, -1));
        t.none("no WAY", () -> Bench.withTable(Bench.TABLE).chance(0, 0));
        t.none("an open coin", () -> by(EVEN).chance(0, 0));
        t.none("an open coin that no throw comes to", () -> Bench.withWay(
                "coin q 0 2;coin p open;end x;", "q(p(x:x):x)").chance(0, 0));
        t.none("it NEVER ENDS", () -> by("again").chance(0, 0));
        t.none("it NEVER ENDS by throws", () -> by("q(again:q(again:again))").chance(0, 0));
        t.none("it NEVER ENDS, its END on a SIDE without parts",
                () -> Bench.withWay("coin q 0 2;end x;", "q(x:again)").chance(0, 0));
        chance(Bench.withWay("coin q 0 2;end x;end y;", "q(x:y)"), 0, 0, 1);
    }

    private static void promise15() {
        BentPenny x = by(EVEN);
        chanceAt(x, 0, 1, 3, 1, 2);
        chanceAt(x, 1, 8, 9, 1, 2);
        chanceAt(by("p(x:p(y:again))"), 0, 1, 3, 3, 5);
        chanceAt(by("p(x:p(y:again))"), 1, 1, 3, 2, 5);
        chanceAt(by("p(x:y)"), 0, 0, 1, 0, 1);
        chanceAt(by("p(x:y)"), 0, 1, 1, 1, 1);
        chanceAt(by("p(x:y)"), 1, 2, 6, 2, 3);
        chanceAt(by("q(x:y)"), 0, 9, 9, 1, 3);
        t.none("it NEVER ENDS by 0 of 1", () -> x.chanceAt(0, 0, 1, 0));
        t.none("it NEVER ENDS by 9 of 9", () -> x.chanceAt(0, 9, 9, 0));
        t.none("m 10", () -> x.chanceAt(0, 1, 10, 0));
        t.none("m 0", () -> x.chanceAt(0, 0, 0, 0));
        t.none("k above m", () -> x.chanceAt(0, 3, 2, 0));
        t.none("k below 0", () -> x.chanceAt(0, -1, 2, 0));
        t.none("END 2", () -> x.chanceAt(2, 1, 2, 0));
        t.none("END -1", () -> x.chanceAt(-1, 1, 2, 0));
        t.none("what 2", () -> x.chanceAt(0, 1, 2, 2));
        t.none("no open coin, and k above m", () -> by("q(x:y)").chanceAt(0, 3, 2, 0));
        t.none("no WAY", () -> Bench.withTable(Bench.TABLE).chanceAt(0, 1, 2, 0));
    }

    private static void promise16() {
        mean(by(EVEN), 1, 2, 4, 1);
        mean(by(EVEN), 1, 3, 9, 2);
        mean(by("q(x:w(y:again:x))"), 1, 2, 15, 7);
        mean(by("x"), 0, 1, 0, 1);
        mean(by("q(x:y)"), 1, 1, 1, 1);
        mean(by("p(x:again)"), 2, 9, 9, 2);
        BentPenny x = by(EVEN);
        t.none("it NEVER ENDS", () -> x.mean(0, 1, 0));
        t.none("m 10", () -> x.mean(1, 10, 0));
        t.none("k above m", () -> x.mean(2, 1, 0));
        t.none("what 2", () -> x.mean(1, 2, 2));
        t.none("what -1", () -> x.mean(1, 2, -1));
        t.none("no WAY", () -> Bench.withTable(Bench.TABLE).mean(1, 2, 0));
        t.none("AGAIN alone", () -> by("again").mean(1, 2, 0));
    }

    /** Three THINGS of nine, eight and seven parts, six deep: the greatest numbers there are. */
    private static void greatNumbers() {
        BentPenny x = Bench.withWay("coin a 8 9;coin b 7 8;coin c 6 7;end x;end y;",
                "a(a(a(b(b(c(x:y):again):again):again):again):again)");
        long above = 8L * 8 * 8 * 7 * 7 * 6;
        long ends = 8L * 8 * 8 * 7 * 7 * 7;
        chance(x, 0, above * 7 / ends, 7);
        chance(Bench.withWay("coin a 8 9;coin b 7 8;coin c 6 7;end x;end y;",
                "a(a(a(a(a(a(x:y):y):y):y):y):b(b(b(b(b(y:y):y):y):y):c(c(c(c(y:y):y):y):y)))"), 0, 262144, 531441);
    }

    private static void poly(BentPenny x, int end, String due) {
        String[] powers = due.split(" ");
        for (int i = 0; i <= 6; i++) {
            int power = i;
            String[] parts = (i < powers.length ? powers[i] : "0").split("/");
            t.fraction("poly of " + end + " at " + i, () -> x.poly(end, power, 0), () -> x.poly(end, power, 1),
                    Long.parseLong(parts[0]), parts.length == 2 ? Long.parseLong(parts[1]) : 1);
        }
    }

    private static void promise17() {
        BentPenny x = by(EVEN);
        poly(x, 0, "0 1 -1");
        poly(x, 1, "0 1 -1");
        poly(x, NONE, "1 -2 2");
        poly(by("p(p(p(p(p(p(y:x):y):y):y):y):y)"), 0, "0 0 0 0 0 1 -1");
        poly(by("p(y:p(y:p(y:p(y:p(y:p(y:x))))))"), 0, "1 -6 15 -20 15 -6 1");
        poly(by("q(p(x:w(x:y:again)):y)"), 0, "1/18 5/18");
        poly(by("q(p(x:w(x:y:again)):y)"), 1, "7/9 -1/9");
        poly(by("q(p(x:w(x:y:again)):y)"), NONE, "1/6 -1/6");
        poly(by("again"), NONE, "1");
        poly(by("x"), 1, "0");
        t.none("END 2", () -> x.poly(2, 0, 0));
        t.none("END -2", () -> x.poly(-2, 0, 0));
        t.none("power 7", () -> x.poly(0, 7, 0));
        t.none("power -1", () -> x.poly(0, -1, 0));
        t.none("what 2", () -> x.poly(0, 0, 2));
        t.none("no WAY", () -> Bench.withTable(Bench.TABLE).poly(0, 0, 0));
    }

    private static void promises18And19() {
        BentPenny x = by(EVEN);
        t.due("LIKE", x.like(0, 1), 1);
        t.due("LIKE itself", x.like(1, 1), 1);
        t.due("END 2", x.like(0, 2), NONE);
        t.due("END 2", x.like(2, 0), NONE);
        t.due("END -1", x.like(-1, 0), NONE);
        t.due("not LIKE", by("p(x:y)").like(0, 1), 0);
        t.due("like without a WAY", Bench.withTable(Bench.TABLE).like(0, 0), NONE);
        BentPenny six = by("p(p(p(p(p(p(x:again):again):again):again):again):again)");
        t.due("not LIKE by the sixth power alone", six.like(0, 1), 0);
        Bench.tape(six, "comes").sentence();
        t.due("it comes by the sixth power alone", six.said(NONE), 1);
        t.due("even", x.even(), 1);
        t.due("not even", by("p(x:y)").even(), 0);
        t.due("even by throws of a wheel", by("w(x:y:q(y:x))").even(), 1);
        t.due("even by a wheel", by("w(x:y:w(x:again:y))").even(), 0);
        t.due("even by a closed coin", Bench.withWay("coin q 1 2;end x;end y;", "q(x:y)").even(), 1);
        t.due("LIKE, but none comes", by("again").like(0, 1), 1);
        t.due("none comes", by("again").even(), 0);
        t.due("one END that comes", Bench.withWay("coin q 1 2;end x;", "q(x:again)").even(), 1);
        t.due("one END that comes by no bend", Bench.withWay("coin q 0 2;end x;", "q(x:again)").even(), 0);
        t.due("a third END that does not come", Bench.withWay("coin p open;end x;end y;end z;", EVEN).even(), 0);
        t.due("even without a WAY", Bench.withTable(Bench.TABLE).even(), NONE);
        t.due("even without ENDS", Bench.withWay("coin q 1 2;", "q(again:again)").even(), NONE);
    }

    private static void judged(String way, String evening, int line, int why, int tosses, int rounds, int end) {
        BentPenny x = by(way);
        t.due("evening " + evening, Bench.tape(x, evening).evening(), line);
        t.due(evening + " fault", x.fault(), 0);
        t.due(evening + " why", x.judged(0), why);
        t.due(evening + " throws", x.judged(1), tosses);
        t.due(evening + " rounds", x.judged(2), rounds);
        t.due(evening + " end", x.judged(3), end);
        t.due(evening + " tape", x.count(4), 0);
    }

    private static void eveningFault(String evening, int place, int kind) {
        BentPenny x = by("q(x:w(y:again:x))");
        t.due("evening " + evening, Bench.tape(x, evening).evening(), -2 - place);
        t.due(evening + " fault", x.fault(), kind);
        t.due(evening + " is not judged", x.judged(0), NONE);
        t.due(evening + " tape", x.count(4), 0);
    }

    private static void promise20() {
        String way = "q(x:w(y:again:x))";
        judged(way, "", NONE, 0, 0, 0, NONE);
        judged(way, "q 0;", NONE, 0, 1, 1, 0);
        judged(way, "q 1;w 1;q 0;so x;", NONE, 0, 3, 2, 0);
        judged(way, "q 1;w 1;", NONE, 0, 2, 1, NONE);
        judged(way, "q 1 ;\nw 002 ; so x ;", NONE, 0, 2, 1, 0);
        judged(way, "q 0;q 0;", 1, 1, 1, 1, 0);
        judged(way, "q 0;w 7;so y;", 1, 1, 1, 1, 0);
        judged(way, "q 1;q 0;", 1, 2, 1, 1, NONE);
        judged(way, "w 9;q 0;", 0, 2, 0, 0, NONE);
        judged(way, "q 2;q 0;so x;", 0, 3, 0, 0, NONE);
        judged(way, "q 999;", 0, 3, 0, 0, NONE);
        judged(way, "so x;", 0, 4, 0, 0, NONE);
        judged(way, "q 1;w 1;so x;", 2, 4, 2, 1, NONE);
        judged(way, "q 0;so y;", 1, 5, 1, 1, 0);
        judged("x", "so x;", NONE, 0, 0, 0, 0);
        judged("x", "q 0;", 0, 1, 0, 0, 0);
        judged("x", "so y;", 0, 5, 0, 0, 0);
        judged("again", "q 0;", 0, 2, 0, 0, NONE);
        judged("again", "so y;", 0, 4, 0, 0, NONE);
        judged(EVEN, "p 0;p 0;p 1;p 1;p 1;p 0;so y;", NONE, 0, 6, 3, 1);
        judged(way, Bench.times("q 1;w 1;", 75), NONE, 0, 150, 75, NONE);
        eveningFault("q", 1, 1);
        eveningFault("q 0", 3, 1);
        eveningFault("q;", 1, 1);
        eveningFault("q 0;so", 6, 1);
        eveningFault("q 0;so x", 8, 1);
        eveningFault("so x;q 0;", 5, 1);
        eveningFault("so x;so x;", 5, 1);
        eveningFault("so 1;", 3, 1);
        eveningFault("again 1;", 0, 1);
        eveningFault("1 q;", 0, 1);
        eveningFault("q 1000;", 2, 1);
        eveningFault("q 0;z 0;", 4, 3);
        eveningFault("x 0;", 0, 3);
        eveningFault("so q;", 3, 3);
        eveningFault("so z;", 3, 3);
        eveningFault(Bench.times("q 1;w 1;", 75) + " ", 600, 1);
        eveningFault(Bench.times("q 1;w 1;", 74) + "q 1;w 1" + " ;", 600, 1);
        BentPenny x = Bench.withTable(Bench.TABLE);
        t.due("no WAY", Bench.tape(x, "q 0;").evening(), -1000);
        t.due("no WAY: the tape", x.count(4), 0);
    }

    private static void promise21() {
        BentPenny x = by("q(x:w(y:again:x))");
        t.due("ahead of any", x.judged(1), NONE);
        Bench.tape(x, "q 1;w 0;so x;").evening();
        Bench.tape(x, "q").evening();
        t.due("a FAULT is not judged", x.judged(0), 5);
        Bench.tape(x, Bench.TABLE).table();
        Bench.tape(x, "q 0;").evening();
        t.due("no WAY: not judged", x.judged(1), 2);
        t.due("the END stays", x.judged(3), 1);
        t.due("what 4", x.judged(4), NONE);
        t.due("what -1", x.judged(-1), NONE);
    }

    private static void best(String table, String way, int nodes, long above, long below) {
        BentPenny x = Bench.withTable(table);
        t.due("best() of " + table, x.best(), nodes);
        t.fraction("bestMean() of " + table, () -> x.bestMean(0), () -> x.bestMean(1), above, below);
        t.yes("take() of " + table, x.take());
        t.text("the best of " + table, x, x.write(), way);
        t.due("its NODES", x.count(2), nodes);
        t.due("its depth", x.deep(), nodes == 3 ? 1 : 2);
        t.fraction("its chance", () -> x.chance(0, 0), () -> x.chance(0, 1), 1, 2);
        t.fraction("its chance", () -> x.chance(1, 0), () -> x.chance(1, 1), 1, 2);
        t.fraction("its mean", () -> x.mean(0, 1, 0), () -> x.mean(0, 1, 1), above, below);
    }

    private static void promise37() {
        best("coin q 1 6;end x;end y;", "q(q(again:x):q(y:again))", 7, 36, 5);
        best("coin q 1 2;end x;end y;", "q(x:y)", 3, 1, 1);
        best("coin p 2 7;coin q 3 6;end x;end y;end z;", "q(x:y)", 3, 1, 1);
        best("coin p 4 8;coin q 1 2;end x;end y;", "p(x:y)", 3, 1, 1);
        best("end y;coin q 1 3;wheel w 1 1;coin p open;end x;", "q(q(again:y):q(y:x))", 7, 9, 4);
        best("coin q 2 3;end x;end y;", "q(q(x:y):q(y:again))", 7, 9, 4);
        best("coin a 1 5;coin b 1 4;end x;end y;", "a(x:b(y:again))", 5, 9, 2);
        best("coin a 2 3;coin b 1 4;end x;end y;", "a(b(x:y):x)", 5, 5, 3);
        best("coin a 2 8;coin b 4 6;end x;end y;", "b(a(x:y):x)", 5, 5, 3);
        best("coin a 1 8;wheel w 1 1;coin b 4 7;end x;end y;", "b(a(x:y):x)", 5, 11, 7);
        t.due("without coins", Bench.withTable("end x;end y;").best(), NONE);
        t.due("wheels are no coins", Bench.withTable("wheel w 1 1;end x;end y;").best(), NONE);
        t.due("an open coin alone", Bench.withTable("coin p open;end x;end y;").best(), NONE);
        t.due("a coin that always falls alike", Bench.withTable("coin p 0 2;end x;end y;").best(), NONE);
        t.due("one END", Bench.withTable("coin q 1 2;end x;").best(), NONE);
        t.due("a new object", new BentPenny().best(), NONE);
    }

    private static void promise38() {
        BentPenny x = new BentPenny();
        t.none("ahead of any", () -> x.bestMean(0));
        x.best();
        t.none("only NONE so far", () -> x.bestMean(0));
        Bench.tape(x, "coin q 1 6;end x;end y;").table();
        x.best();
        x.take();
        int[] sorts = {2, 2, 1, 0, 2, 0, 1};
        int[] whiches = {0, 0, NONE, 0, 0, 1, NONE};
        for (int k = 0; k < sorts.length; k++) {
            t.due("node " + k + " of the best", x.node(k), sorts[k]);
            t.due("nodeOf " + k + " of the best", x.nodeOf(k), whiches[k]);
        }
        t.due("next of the best", x.next(4, 1), 6);
        t.due("next of its END", x.next(3, 0), NONE);
        Bench.tape(x, "coin q 1 6;end x;").table();
        t.due("NONE now", x.best(), NONE);
        t.fraction("the latest that was not NONE", () -> x.bestMean(0), () -> x.bestMean(1), 36, 5);
        t.none("what 2", () -> x.bestMean(2));
        t.none("what -1", () -> x.bestMean(-1));
    }

    private static void promise39() {
        BentPenny x = new BentPenny();
        t.no("ahead of any", x.take());
        String table = "coin q 1 2;end x;end y;";
        Bench.tape(x, table).table();
        x.best();
        Bench.tape(x, "like x").sentence();
        t.due("best() leaves the WAY", x.count(2), 0);
        t.yes("taken", x.take());
        t.due("it is the WAY", x.nodeOf(2), 1);
        t.due("the SENTENCE stays", x.said(0), 0);
        Bench.tape(x, "again").way();
        t.yes("taken again", x.take());
        x.image(0);
        Bench.tape(x, "end a 2").table();
        t.yes("a FAULT leaves the TABLE", x.take());
        Bench.tape(x, table).table();
        t.no("a text read anew", x.take());
        t.due("it stays", x.count(2), 0);
        x.image(1);
        x.restore(0);
        t.yes("the TABLE of the image", x.take());
        x.restore(1);
        t.no("the other TABLE", x.take());
        x.best();
        x.restore(0);
        t.no("the best of the other TABLE", x.take());
    }

    private static void promises42And43() {
        BentPenny x = by("q(x:w(y:again:x))");
        t.due("ahead of any", x.tosses(), NONE);
        // 1 * 1103515245 + 12345 = 1103527590, >>> 8 is 4310654, % 3 is 2: tail; then w by % 6
        t.due("one throw", x.cast(1, 1), NONE);
        t.due("its throws", x.tosses(), 1);
        int w = (1103527590 * 1103515245 + 12345 >>> 8) % 6;
        t.due("two throws", x.cast(2, 1), w < 1 ? 1 : w < 3 ? NONE : 0);
        t.due("its throws", x.tosses(), 2);
        t.due("no throws told", x.cast(0, 1), -2);
        t.due("below none", x.cast(-1, 1), -2);
        t.due("too many told", x.cast(401, 1), -2);
        t.due("-2 leaves it", x.tosses(), 2);
        BentPenny single = by("y");
        t.due("an END alone", single.cast(400, 7), 1);
        t.due("its throws", single.tosses(), 0);
        BentPenny again = by("again");
        t.due("AGAIN alone", again.cast(400, 7), NONE);
        t.due("its throws", again.tosses(), 0);
        BentPenny never = Bench.withWay("coin q 0 2;end x;", "q(x:again)");
        t.due("it never comes", never.cast(400, -5), NONE);
        t.due("its throws", never.tosses(), 400);
        t.due("tail always", Bench.withWay("coin q 0 2;end x;end y;", "q(x:y)").cast(1, 99), 1);
        t.due("head always", Bench.withWay("coin q 2 2;end x;end y;", "q(x:y)").cast(1, 99), 0);
        t.due("an open coin", by(EVEN).cast(1, 1), -2);
        t.due("no WAY", Bench.withTable(Bench.TABLE).cast(1, 1), -2);
        for (int seed = -40; seed < 40; seed++) {
            castOfWheel(seed * 53687091);
        }
    }

    private static void castOfWheel(int seed) {
        BentPenny x = Bench.withWay("wheel w 1 2 3;end a;end b;end c;", "w(a:b:c)");
        int draw = (seed * 1103515245 + 12345 >>> 8) % 6;
        t.due("cast by " + seed, x.cast(400, seed), draw < 1 ? 0 : draw < 3 ? 1 : 2);
        t.due("its throws", x.tosses(), 1);
    }

    private static void promise44() {
        BentPenny x = by("q(x:w(y:again:x))");
        int[] came = new int[2];
        for (int i = 0; i < 200; i++) {
            came[x.cast(400, Integer.MAX_VALUE - 50 + i)]++;
        }
        x.cast(1, 1);
        t.due("200 CASTS for x", x.casts(200, Integer.MAX_VALUE - 50, 0), came[0]);
        t.due("200 CASTS for y", x.casts(200, Integer.MAX_VALUE - 50, 1), came[1]);
        t.due("the latest cast() stays", x.tosses(), 1);
        t.due("one CAST", x.casts(1, 5, 0), x.cast(400, 5) == 0 ? 1 : 0);
        t.due("no CASTS", x.casts(0, 5, 0), NONE);
        t.due("too many CASTS", x.casts(201, 5, 0), NONE);
        t.due("END 2", x.casts(1, 5, 2), NONE);
        t.due("END -1", x.casts(1, 5, -1), NONE);
        t.due("an END that does not come", by("again").casts(3, 1, 0), 0);
        t.due("an open coin", by(EVEN).casts(1, 1, 0), NONE);
        t.due("no WAY", Bench.withTable(Bench.TABLE).casts(1, 1, 0), NONE);
        t.due("at most 400 throws", Bench.withWay("coin q 0 2;end x;", "q(x:again)").casts(200, 1, 0), 0);
    }
}
