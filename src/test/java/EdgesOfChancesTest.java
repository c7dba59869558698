/** The cases at the edges of promises 14 to 21: chances and mean throws, POLYNOMIALS, EVENINGS. */
final class EdgesOfChancesTest {
    private static final int NONE = BentPenny.NONE;
    private static final int[] OFF = {Cases.LEAST, Cases.LEAST + 1, -1000, -2, 1000, 1 << 30, Cases.GREATEST};
    private static final String SIX = "coin p open;end a;end b;end c;end d;end e;end f;";

    public static void main(String[] args) {
        Cases.runAll(EdgesOfChancesTest.class);
    }

    private static void chance(String table, String way, int end, long above, long below) {
        Cases.fraction("CHANCE of " + end + " by " + way, Bench.withWay(table, way),
                (x, what) -> x.chance(end, what), above, below);
    }

    private static final String FULL_TABLE = "wheel w 1 1 1 1 1 1;wheel v 1 1 1;coin q 1 2;end x;end y;";

    /** A WAY of 80 NODES, the last of them on the last SIDE of the first THING. */
    private static String fullWay(String last) {
        String seven = "w(x:x:x:x:x:x)";
        String many = "w(" + Bench.times(seven + ":", 5) + seven + ")";
        String fewer = "w(" + Bench.times(seven + ":", 4) + "q(x:x):q(x:x))";
        return "v(" + many + ":" + fewer + ":" + last + ")";
    }

    static void promise14_chance_ofTheLastOf80Nodes() {
        Cases.nodes(FULL_TABLE, fullWay("y"), 80);
        chance(FULL_TABLE, fullWay("y"), 0, 2, 3);
        chance(FULL_TABLE, fullWay("y"), 1, 1, 3);
        chance(FULL_TABLE, fullWay("again"), 0, 1, 1);
        mean(FULL_TABLE, fullWay("y"), 0, 1, 7, 3);
        mean(FULL_TABLE, fullWay("again"), 0, 1, 7, 2);
        poly(Bench.withWay(FULL_TABLE, fullWay("y")), 1, 0, 1, 3);
        poly(Bench.withWay(FULL_TABLE, fullWay("again")), NONE, 0, 1, 3);
    }

    // ---- Promise 14: chance ----

    static void promise14_chance_ofAnEndThatNeverComes() {
        chance(Bench.TABLE, "y", 0, 0, 1);
        chance("coin q 0 2;end x;end y;", "q(x:y)", 0, 0, 1);
    }

    static void promise14_chance_ofAnEndThatAlwaysComes() {
        chance(Bench.TABLE, "y", 1, 1, 1);
        chance("coin q 2 2;end x;end y;", "q(x:y)", 0, 1, 1);
        chance(Bench.TABLE, "q(again:x)", 0, 1, 1);
        chance("coin q 1 9;end x;", "q(q(q(q(q(q(x:again):again):again):again):again):again)", 0, 1, 1);
    }

    static void promise14_chance_ofTheLastOfSixEnds() {
        chance("wheel w 1 1 1 1 1 4;end a;end b;end c;end d;end e;end f;", "w(a:b:c:d:e:f)", 5, 4, 9);
        chance("wheel w 1 1 1 1 1 4;end a;end b;end c;end d;end e;end f;", "w(a:b:c:d:e:f)", 0, 1, 9);
    }

    static void promise14_chance_askedAgainAndAgain() {
        BentPenny x = Bench.withWay("coin q 1 2;end a;end b;end c;end d;end e;end f;", "q(f:a)");
        for (int turn = 0; turn < 3; turn++) {
            for (int end = 0; end < 6; end++) {
                int at = end;
                Cases.fraction("CHANCE of " + end, x, (o, what) -> o.chance(at, what), end % 5 == 0 ? 1 : 0,
                        end % 5 == 0 ? 2 : 1);
                Cases.fraction("poly of " + end, x, (o, what) -> o.poly(at, 0, what), end % 5 == 0 ? 1 : 0,
                        end % 5 == 0 ? 2 : 1);
            }
            Cases.fraction("MEAN", x, (o, what) -> o.mean(1, 2, what), 1, 1);
        }
    }

    static void promise14_chance_theLeastOfSixNinths() {
        chance("coin q 1 9;end x;end y;", "q(q(q(q(q(q(x:y):y):y):y):y):y)", 0, 1, 531441);
    }

    static void promise14_chance_ofThreeThingsSixDeep() {
        String table = "coin a 8 9;coin b 7 9;coin c 4 9;end x;end y;";
        chance(table, "a(a(b(b(c(c(x:y):y):y):y):y):y)", 0, 64 * 49 * 16, 531441);
        chance(table, "a(a(b(b(c(c(x:y):y):y):y):y):y)", 1, 531441 - 64 * 49 * 16, 531441);
    }

    static void promise14_chance_ofThingsWithNothingInCommon() {
        String table = "wheel w 1 1 1 1 1 4;coin b 7 8;coin c 6 7;end x;end y;";
        chance(table, "w(b(c(w(b(c(x:y):y):y:y:y:y:y):y):y):y:y:y:y:y)", 0,
                1, 144);
    }

    static void promise14_chance_anOpenCoinInTheTableAlone() {
        chance(Bench.TABLE, "q(x:y)", 0, 1, 3);
    }

    static void promise14_chance_noSuchEnd() {
        Cases.refused(Cases::full, "chance(2, 0)", x -> x.chance(2, 0), Cases.THROWS);
        Cases.refused(Cases::full, "chance(-1, 0)", x -> x.chance(-1, 0), Cases.THROWS);
        Cases.due("a seventh", Bench.withWay("end a;end b;end c;end d;end e;end f;", "a"),
                x -> x.chance(6, 0), Cases.THROWS);
        for (int end : OFF) {
            Cases.due("chance(" + end + ", 0)", Cases.full(), x -> x.chance(end, 0), Cases.THROWS);
        }
    }

    static void promise14_chance_noSuchWhat() {
        Cases.refused(Cases::full, "chance(0, 2)", x -> x.chance(0, 2), Cases.THROWS);
        Cases.refused(Cases::full, "chance(0, -1)", x -> x.chance(0, -1), Cases.THROWS);
        for (int what : OFF) {
            Cases.due("chance(0, " + what + ")", Cases.full(), x -> x.chance(0, what), Cases.THROWS);
        }
    }

    static void promise14_chance_noWay() {
        Cases.refused(Cases::noWay, "chance(0, 0)", x -> x.chance(0, 0), Cases.THROWS);
        Cases.refused(Cases::fresh, "chance(0, 0)", x -> x.chance(0, 0), Cases.THROWS);
    }

    static void promise14_chance_anOpenCoinInTheWay() {
        Cases.refused(Cases::opened, "chance(0, 0)", x -> x.chance(0, 0), Cases.THROWS);
        Cases.due("at the last NODE", Bench.withWay(Bench.TABLE, "q(x:q(y:p(x:x)))"),
                x -> x.chance(0, 0), Cases.THROWS);
        Cases.due("where no throw comes", Bench.withWay("coin q 0 2;coin p open;end x;", "q(p(x:x):x)"),
                x -> x.chance(0, 0), Cases.THROWS);
        Cases.due("THING 2", Bench.withWay("coin q 1 2;coin r 1 2;coin p open;end x;", "p(x:x)"),
                x -> x.chance(0, 0), Cases.THROWS);
    }

    static void promise14_chance_itNeverEnds() {
        Cases.refused(Cases::never, "chance(0, 0)", x -> x.chance(0, 0), Cases.THROWS);
        Cases.due("AGAIN alone", Bench.withWay(Bench.TABLE, "again"), x -> x.chance(0, 0), Cases.THROWS);
        Cases.due("by no parts", Bench.withWay("coin q 2 2;end x;", "q(again:x)"), x -> x.chance(0, 0), Cases.THROWS);
    }

    // ---- Promise 15: chanceAt ----

    private static void chanceAt(String way, int end, int k, int m, long above, long below) {
        Cases.fraction("CHANCE of " + end + " by " + k + " of " + m, Bench.withWay(Bench.TABLE, way),
                (x, what) -> x.chanceAt(end, k, m, what), above, below);
    }

    static void promise15_chanceAt_mOf1() {
        chanceAt("p(x:y)", 0, 0, 1, 0, 1);
        chanceAt("p(x:y)", 0, 1, 1, 1, 1);
        chanceAt("p(x:y)", 1, 0, 1, 1, 1);
        chanceAt("p(x:y)", 1, 1, 1, 0, 1);
    }

    static void promise15_chanceAt_mOf9() {
        chanceAt("p(x:y)", 0, 0, 9, 0, 1);
        chanceAt("p(x:y)", 0, 1, 9, 1, 9);
        chanceAt("p(x:y)", 0, 9, 9, 1, 1);
        chanceAt("p(p(p(p(p(p(x:y):y):y):y):y):y)", 0, 8, 9, 262144, 531441);
    }

    static void promise15_chanceAt_mOf0And10() {
        Cases.refused(Cases::opened, "chanceAt(0, 0, 0, 0)", x -> x.chanceAt(0, 0, 0, 0), Cases.THROWS);
        Cases.refused(Cases::opened, "chanceAt(0, 1, 10, 0)", x -> x.chanceAt(0, 1, 10, 0), Cases.THROWS);
        Cases.due("m -1", Cases.opened(), x -> x.chanceAt(0, -1, -1, 0), Cases.THROWS);
        for (int m : OFF) {
            Cases.due("m " + m, Cases.opened(), x -> x.chanceAt(0, 1, m, 0), Cases.THROWS);
        }
    }

    static void promise15_chanceAt_kBelow0AndAboveM() {
        Cases.refused(Cases::opened, "chanceAt(0, -1, 2, 0)", x -> x.chanceAt(0, -1, 2, 0), Cases.THROWS);
        Cases.refused(Cases::opened, "chanceAt(0, 3, 2, 0)", x -> x.chanceAt(0, 3, 2, 0), Cases.THROWS);
        Cases.due("2 of 1", Cases.opened(), x -> x.chanceAt(0, 2, 1, 0), Cases.THROWS);
        Cases.due("10 of 9", Cases.opened(), x -> x.chanceAt(0, 10, 9, 0), Cases.THROWS);
        for (int k : OFF) {
            Cases.due("k " + k, Cases.opened(), x -> x.chanceAt(0, k, 9, 0), Cases.THROWS);
        }
    }

    private static void noSuchBend(String table, String way, int k, int m) {
        BentPenny x = Bench.withWay(table, way);
        String by = " of " + way + " by " + k + " of " + m;
        Cases.due("CHANCE" + by, x, o -> o.chanceAt(0, k, m, 0), Cases.THROWS);
        Cases.due("MEAN" + by, x, o -> o.mean(k, m, 1), Cases.THROWS);
    }

    static void promise15_chanceAt_noSuchBendOfAnyWay() {
        int[][] none = {{0, 0}, {-1, -1}, {-1, 1}, {-1, 2}, {-1, 9}, {2, 1}, {3, 2}, {10, 9}, {0, 10}, {10, 10}, {1, -1},
            {0, -1}, {1, 0}};
        for (int[] bend : none) {
            for (String way : new String[] {"p(x:y)", "p(x:p(y:x))", "q(x:y)", "x"}) {
                noSuchBend(Bench.TABLE, way, bend[0], bend[1]);
            }
            noSuchBend("coin q 1 3;end x;end y;", "q(x:y)", bend[0], bend[1]);
            noSuchBend("end x;", "x", bend[0], bend[1]);
        }
    }

    static void promise15_chanceAt_withoutAnOpenCoin() {
        chanceAt("q(x:y)", 0, 0, 1, 1, 3);
        chanceAt("q(x:y)", 0, 9, 9, 1, 3);
        chanceAt("y", 1, 1, 1, 1, 1);
        Cases.fraction("no open coin in the TABLE", Bench.withWay("coin q 1 3;end x;", "q(x:again)"),
                (x, what) -> x.chanceAt(0, 1, 1, what), 1, 1);
    }

    static void promise15_chanceAt_withAnOpenCoinBesideOthers() {
        chanceAt("q(p(x:y):w(p(y:x):x:again))", 0, 2, 5, 19, 30);
    }

    static void promise15_chanceAt_noSuchEnd() {
        Cases.refused(Cases::opened, "chanceAt(2, 1, 2, 0)", x -> x.chanceAt(2, 1, 2, 0), Cases.THROWS);
        Cases.refused(Cases::opened, "chanceAt(-1, 1, 2, 0)", x -> x.chanceAt(-1, 1, 2, 0), Cases.THROWS);
        for (int end : OFF) {
            Cases.due("END " + end, Cases.opened(), x -> x.chanceAt(end, 1, 2, 0), Cases.THROWS);
        }
    }

    static void promise15_chanceAt_noSuchWhat() {
        Cases.refused(Cases::opened, "chanceAt(0, 1, 2, 2)", x -> x.chanceAt(0, 1, 2, 2), Cases.THROWS);
        Cases.refused(Cases::opened, "chanceAt(0, 1, 2, -1)", x -> x.chanceAt(0, 1, 2, -1), Cases.THROWS);
        for (int what : OFF) {
            Cases.due("what " + what, Cases.opened(), x -> x.chanceAt(0, 1, 2, what), Cases.THROWS);
        }
    }

    static void promise15_chanceAt_noWay() {
        Cases.refused(Cases::noWay, "chanceAt(0, 1, 2, 0)", x -> x.chanceAt(0, 1, 2, 0), Cases.THROWS);
        Cases.refused(Cases::fresh, "chanceAt(0, 1, 2, 0)", x -> x.chanceAt(0, 1, 2, 0), Cases.THROWS);
    }

    static void promise15_chanceAt_itNeverEnds() {
        Cases.refused(Cases::never, "chanceAt(0, 1, 2, 0)", x -> x.chanceAt(0, 1, 2, 0), Cases.THROWS);
        Cases.refused(Cases::opened, "chanceAt(0, 0, 1, 0)", x -> x.chanceAt(0, 0, 1, 0), Cases.THROWS);
        Cases.refused(Cases::opened, "chanceAt(1, 9, 9, 0)", x -> x.chanceAt(1, 9, 9, 0), Cases.THROWS);
    }

    static void promise15_chanceAt_itEndsByThisBendAlone() {
        chanceAt("p(x:again)", 0, 1, 9, 1, 1);
        Cases.due("by 0 of 9", Bench.withWay(Bench.TABLE, "p(x:again)"), x -> x.chanceAt(0, 0, 9, 0), Cases.THROWS);
        chanceAt("p(again:x)", 0, 0, 1, 1, 1);
        Cases.due("by 1 of 1", Bench.withWay(Bench.TABLE, "p(again:x)"), x -> x.chanceAt(0, 1, 1, 0), Cases.THROWS);
    }

    // ---- Promise 16: mean ----

    private static void mean(String table, String way, int k, int m, long above, long below) {
        Cases.fraction("MEAN of " + way + " by " + k + " of " + m, Bench.withWay(table, way),
                (x, what) -> x.mean(k, m, what), above, below);
    }

    static void promise16_mean_ofNoThrow() {
        mean(Bench.TABLE, "x", 0, 1, 0, 1);
        mean(Bench.TABLE, "x", 9, 9, 0, 1);
    }

    static void promise16_mean_ofOneThrow() {
        mean(Bench.TABLE, "q(x:y)", 0, 1, 1, 1);
        mean(Bench.TABLE, "p(x:y)", 1, 1, 1, 1);
        mean(Bench.TABLE, "w(x:y:x)", 4, 9, 1, 1);
    }

    static void promise16_mean_ofSixThrowsAlways() {
        mean(Bench.TABLE, "p(x:p(x:p(x:p(x:p(x:p(x:y))))))", 0, 1, 6, 1);
        mean(Bench.TABLE, "p(x:p(x:p(x:p(x:p(x:p(x:y))))))", 1, 1, 1, 1);
    }

    static void promise16_mean_theGreatest() {
        mean("coin q 1 9;end x;", "q(q(q(q(q(q(x:again):again):again):again):again):again)", 0, 1, 597870, 1);
        mean("coin q 1 9;coin p open;end x;", "q(p(q(p(q(p(x:again):again):again):again):again):again)", 1, 9, 597870, 1);
    }

    static void promise16_mean_mOf1And9() {
        mean(Bench.TABLE, "p(x:again)", 1, 1, 1, 1);
        mean(Bench.TABLE, "p(x:again)", 1, 9, 9, 1);
        mean(Bench.TABLE, "p(x:again)", 9, 9, 1, 1);
        mean(Bench.TABLE, "p(again:x)", 0, 1, 1, 1);
    }

    static void promise16_mean_mOf0And10() {
        Cases.refused(Cases::opened, "mean(0, 0, 0)", x -> x.mean(0, 0, 0), Cases.THROWS);
        Cases.refused(Cases::opened, "mean(1, 10, 0)", x -> x.mean(1, 10, 0), Cases.THROWS);
        for (int m : OFF) {
            Cases.due("m " + m, Cases.opened(), x -> x.mean(1, m, 0), Cases.THROWS);
        }
    }

    static void promise16_mean_kBelow0AndAboveM() {
        Cases.refused(Cases::opened, "mean(-1, 2, 0)", x -> x.mean(-1, 2, 0), Cases.THROWS);
        Cases.refused(Cases::opened, "mean(3, 2, 0)", x -> x.mean(3, 2, 0), Cases.THROWS);
        Cases.due("10 of 9", Cases.opened(), x -> x.mean(10, 9, 0), Cases.THROWS);
        for (int k : OFF) {
            Cases.due("k " + k, Cases.opened(), x -> x.mean(k, 9, 0), Cases.THROWS);
        }
    }

    static void promise16_mean_noSuchWhat() {
        Cases.refused(Cases::opened, "mean(1, 2, 2)", x -> x.mean(1, 2, 2), Cases.THROWS);
        Cases.refused(Cases::opened, "mean(1, 2, -1)", x -> x.mean(1, 2, -1), Cases.THROWS);
        for (int what : OFF) {
            Cases.due("what " + what, Cases.opened(), x -> x.mean(1, 2, what), Cases.THROWS);
        }
    }

    static void promise16_mean_noWay() {
        Cases.refused(Cases::noWay, "mean(1, 2, 0)", x -> x.mean(1, 2, 0), Cases.THROWS);
        Cases.refused(Cases::fresh, "mean(1, 2, 0)", x -> x.mean(1, 2, 0), Cases.THROWS);
    }

    static void promise16_mean_itNeverEnds() {
        Cases.refused(Cases::never, "mean(1, 2, 0)", x -> x.mean(1, 2, 0), Cases.THROWS);
        Cases.refused(Cases::opened, "mean(0, 9, 0)", x -> x.mean(0, 9, 0), Cases.THROWS);
        Cases.refused(Cases::opened, "mean(9, 9, 1)", x -> x.mean(9, 9, 1), Cases.THROWS);
        Cases.due("AGAIN alone", Bench.withWay(Bench.TABLE, "again"), x -> x.mean(1, 2, 0), Cases.THROWS);
    }

    // ---- Promise 17: poly ----

    private static void poly(BentPenny x, int end, int power, long above, long below) {
        Cases.fraction("poly of " + end + ", " + power, x, (o, what) -> o.poly(end, power, what), above, below);
    }

    static void promise17_poly_powers0And6() {
        BentPenny x = Bench.withWay(Bench.TABLE, "p(y:p(y:p(y:p(y:p(y:p(y:x))))))");
        poly(x, 0, 0, 1, 1);
        poly(x, 0, 6, 1, 1);
        poly(x, 1, 0, 0, 1);
        poly(x, 1, 6, -1, 1);
    }

    static void promise17_poly_powersMinus1And7() {
        Cases.refused(Cases::opened, "poly(0, 7, 0)", x -> x.poly(0, 7, 0), Cases.THROWS);
        Cases.refused(Cases::opened, "poly(0, -1, 0)", x -> x.poly(0, -1, 0), Cases.THROWS);
        for (int i : OFF) {
            Cases.due("power " + i, Cases.opened(), x -> x.poly(0, i, 0), Cases.THROWS);
        }
    }

    static void promise17_poly_ofAgain() {
        BentPenny x = Bench.withWay(Bench.TABLE, Cases.OPEN_WAY);
        poly(x, NONE, 0, 1, 1);
        poly(x, NONE, 1, -2, 1);
        poly(x, NONE, 2, 2, 1);
        poly(x, NONE, 3, 0, 1);
        poly(Bench.withWay("", "again"), NONE, 0, 1, 1);
        poly(Bench.withWay(Bench.TABLE, "x"), NONE, 0, 0, 1);
    }

    static void promise17_poly_ofAWayThatNeverEnds() {
        poly(Bench.withWay(Bench.TABLE, "p(again:again)"), NONE, 0, 1, 1);
        poly(Bench.withWay(Bench.TABLE, "p(again:again)"), NONE, 1, 0, 1);
        poly(Bench.withWay(Bench.TABLE, "again"), 0, 0, 0, 1);
    }

    static void promise17_poly_withoutAnOpenCoin() {
        BentPenny x = Bench.withWay(Bench.TABLE, Cases.CLOSED_WAY);
        poly(x, 0, 0, 2, 3);
        poly(x, 1, 0, 1, 9);
        poly(x, NONE, 0, 2, 9);
        poly(x, 0, 1, 0, 1);
    }

    static void promise17_poly_ofTheLastOfSixEnds() {
        BentPenny x = Bench.withWay(SIX, "p(p(a:b):p(c:p(d:p(e:f))))");
        poly(x, 5, 0, 1, 1);
        poly(x, 5, 4, 1, 1);
        poly(x, 0, 2, 1, 1);
        poly(x, NONE, 0, 0, 1);
    }

    static void promise17_poly_noSuchEnd() {
        Cases.refused(Cases::opened, "poly(2, 0, 0)", x -> x.poly(2, 0, 0), Cases.THROWS);
        Cases.refused(Cases::opened, "poly(-2, 0, 0)", x -> x.poly(-2, 0, 0), Cases.THROWS);
        Cases.due("a seventh", Bench.withWay(SIX, "p(again:a)"), x -> x.poly(6, 0, 0), Cases.THROWS);
        for (int end : OFF) {
            Cases.due("END " + end, Cases.opened(), x -> x.poly(end, 0, 0), Cases.THROWS);
        }
    }

    static void promise17_poly_noSuchWhat() {
        Cases.refused(Cases::opened, "poly(0, 0, 2)", x -> x.poly(0, 0, 2), Cases.THROWS);
        Cases.refused(Cases::opened, "poly(0, 0, -1)", x -> x.poly(0, 0, -1), Cases.THROWS);
        for (int what : OFF) {
            Cases.due("what " + what, Cases.opened(), x -> x.poly(0, 0, what), Cases.THROWS);
        }
    }

    static void promise17_poly_noWay() {
        Cases.refused(Cases::noWay, "poly(0, 0, 0)", x -> x.poly(0, 0, 0), Cases.THROWS);
        Cases.refused(Cases::noWay, "poly(-1, 0, 0)", x -> x.poly(NONE, 0, 0), Cases.THROWS);
        Cases.refused(Cases::fresh, "poly(-1, 0, 0)", x -> x.poly(NONE, 0, 0), Cases.THROWS);
    }

    // ---- Promise 18: like ----

    static void promise18_like_itself() {
        BentPenny x = Bench.withWay(Bench.TABLE, Cases.CLOSED_WAY);
        Cases.due("like(0, 0)", x.like(0, 0), 1);
        Cases.due("like(1, 1)", x.like(1, 1), 1);
        Cases.due("like(0, 1)", x.like(0, 1), 0);
        Cases.due("like(1, 0)", x.like(1, 0), 0);
    }

    static void promise18_like_twoThatNeverCome() {
        Cases.due("like(0, 1)", Bench.withWay(Bench.TABLE, "again").like(0, 1), 1);
        Cases.due("one of them comes", Bench.withWay(Bench.TABLE, "x").like(0, 1), 0);
    }

    static void promise18_like_whateverTheBend() {
        Cases.due("LIKE", Bench.withWay(Bench.TABLE, Cases.OPEN_WAY).like(0, 1), 1);
        Cases.due("by an even bend alone", Bench.withWay(Bench.TABLE, "p(x:y)").like(0, 1), 0);
        Cases.due("by 0 and 1 alone", Bench.withWay(Bench.TABLE, "p(p(x:again):p(x:x))").like(0, 1), 0);
    }

    static void promise18_like_theFirstAndTheLastOfSix() {
        BentPenny x = Bench.withWay(SIX, "p(p(again:a):p(f:again))");
        Cases.due("like(0, 5)", x.like(0, 5), 1);
        Cases.due("like(5, 0)", x.like(5, 0), 1);
        Cases.due("like(1, 4)", x.like(1, 4), 1);
        Cases.due("like(4, 5)", x.like(4, 5), 0);
        Cases.due("like(0, 6)", x.like(0, 6), NONE);
        Cases.due("like(6, 6)", x.like(6, 6), NONE);
    }

    static void promise18_like_noSuchEnds() {
        int[][] none = {{0, 2}, {2, 0}, {-1, 0}, {0, -1}, {-1, -1}, {2, 2}};
        for (int[] ends : none) {
            Cases.refused(Cases::full, "like(" + ends[0] + ", " + ends[1] + ")", x -> x.like(ends[0], ends[1]), NONE);
        }
        for (int end : OFF) {
            Cases.due("like(" + end + ", 0)", Cases.full().like(end, 0), NONE);
            Cases.due("like(0, " + end + ")", Cases.full().like(0, end), NONE);
        }
    }

    static void promise18_like_noWay() {
        Cases.refused(Cases::noWay, "like(0, 1)", x -> x.like(0, 1), NONE);
        Cases.refused(Cases::fresh, "like(0, 0)", x -> x.like(0, 0), NONE);
    }

    // ---- Promise 19: even ----

    static void promise19_even_allLike() {
        Cases.due("two", Bench.withWay(Bench.TABLE, Cases.OPEN_WAY).even(), 1);
        Cases.due("six", Bench.withWay("wheel w 1 1 1 1 1 1;end a;end b;end c;end d;end e;end f;",
                "w(a:b:c:d:e:f)").even(), 1);
    }

    static void promise19_even_oneOfSixIsNot() {
        String table = "wheel w 1 1 1 1 1 1;end a;end b;end c;end d;end e;end f;";
        Cases.due("the last", Bench.withWay(table, "w(a:b:c:d:e:again)").even(), 0);
        Cases.due("the first", Bench.withWay(table, "w(again:b:c:d:e:f)").even(), 0);
        Cases.due("one inmidst", Bench.withWay(table, "w(a:b:again:d:e:f)").even(), 0);
    }

    static void promise19_even_oneEnd() {
        Cases.due("it comes", Bench.withWay("coin q 1 2;end x;", "q(x:again)").even(), 1);
        Cases.due("it never comes", Bench.withWay("coin q 1 2;end x;", "q(again:again)").even(), 0);
        Cases.due("by no parts", Bench.withWay("coin q 0 2;end x;", "q(x:again)").even(), 0);
    }

    static void promise19_even_eachComesByABendButNotByEvery() {
        Cases.due("even()", Bench.withWay("coin p open;end x;", "p(x:again)").even(), 1);
    }

    static void promise19_even_theOneEndComesByTheSixthPowerAlone() {
        BentPenny x = Bench.withWay("coin p open;end x;", "p(p(p(p(p(p(x:again):again):again):again):again):again)");
        Cases.due("even()", x.even(), 1);
        Bench.tape(x, "comes").sentence();
        Cases.due("comes", x.said(NONE), 1);
    }

    static void promise19_even_allLikeButNoneComes() {
        Cases.due("even()", Bench.withWay(Bench.TABLE, "again").even(), 0);
        Cases.due("even()", Cases.never().even(), 0);
    }

    static void promise19_even_noWay() {
        Cases.refused(Cases::noWay, "even()", x -> x.even(), NONE);
        Cases.refused(Cases::fresh, "even()", x -> x.even(), NONE);
    }

    static void promise19_even_noEnds() {
        Cases.refused(() -> Cases.told("coin q 1 2;", "q(again:again)"), "even()", x -> x.even(), NONE);
    }

    // ---- Promise 20: evening ----

    static void promise20_evening_noLineIsWrong() {
        BentPenny x = Bench.withWay(Bench.TABLE, Cases.CLOSED_WAY);
        Cases.due("evening()", Bench.tape(x, "q 1;w 1;q 0;so x;").evening(), NONE);
        Cases.due("the tape", x.count(4), 0);
    }

    static void promise20_evening_line0IsWrong() {
        BentPenny x = Bench.withWay(Bench.TABLE, Cases.CLOSED_WAY);
        Cases.due("evening()", Bench.tape(x, "w 1;q 0;").evening(), 0);
        Cases.due("the tape", x.count(4), 0);
    }

    static void promise20_evening_theLastOfManyLinesIsWrong() {
        BentPenny x = Bench.withWay(Bench.TABLE, Cases.CLOSED_WAY);
        Cases.due("evening()", Bench.tape(x, Bench.times("q 1;w 1;", 74) + "q 1;q 1;").evening(), 149);
        Cases.due("throws", x.judged(1), 149);
        Cases.due("ROUNDS", x.judged(2), 75);
    }

    static void promise20_evening_againAndAgain() {
        BentPenny x = Bench.withWay("coin q 1 2;end a;", "q(a:again)");
        Cases.due("evening()", Bench.tape(x, Bench.times("q 1;", 150)).evening(), NONE);
        Cases.due("throws", x.judged(1), 150);
        Cases.due("ROUNDS", x.judged(2), 150);
        Cases.due("END", x.judged(3), NONE);
    }

    static void promise20_evening_aFaultIsTold() {
        Cases.eveningFault("%", 0, 1);
        Cases.eveningFault("q 0;%", 4, 1);
        Cases.eveningFault(Cases.padded("q 0;", 601, ""), 600, 1);
    }

    static void promise20_evening_noWay() {
        Cases.refusedTape(Cases::noWay, "q 0;", "evening()", x -> x.evening(), -1000);
        Cases.refusedTape(Cases::noWay, "%", "evening()", x -> x.evening(), -1000);
        Cases.refusedTape(Cases::noWay, "", "evening()", x -> x.evening(), -1000);
        Cases.refusedTape(Cases::fresh, "", "evening()", x -> x.evening(), -1000);
    }

    static void promise20_evening_leavesTheWayAndAllElse() {
        BentPenny x = Bench.withWay(Bench.TABLE, Cases.CLOSED_WAY);
        Bench.tape(x, "q 1;").evening();
        Cases.due("each begins anew", Bench.tape(x, "q 0;").evening(), NONE);
        Cases.due("NODES", x.count(2), 6);
    }

    // ---- Promise 21: judged ----

    static void promise21_judged_aheadOfAny() {
        for (int what = -1; what <= 4; what++) {
            Cases.due("judged " + what, new BentPenny().judged(what), NONE);
        }
        BentPenny x = Bench.withTable(Bench.TABLE);
        Bench.tape(x, "q 0;").evening();
        Cases.due("without a WAY", x.judged(0), NONE);
        Bench.tape(x, Cases.CLOSED_WAY).way();
        Bench.tape(x, "q 0").evening();
        Cases.due("with a FAULT alone", x.judged(0), NONE);
        Cases.due("with a FAULT alone", x.judged(1), NONE);
    }

    static void promise21_judged_anotherWhat() {
        Cases.refused(Cases::full, "judged(4)", x -> x.judged(4), NONE);
        Cases.refused(Cases::full, "judged(-1)", x -> x.judged(-1), NONE);
        for (int what : OFF) {
            Cases.due("judged " + what, Cases.full().judged(what), NONE);
        }
    }

    private static void judged(BentPenny x, int why, int tosses, int rounds, int end) {
        int[] due = {why, tosses, rounds, end};
        for (int what = 0; what < 4; what++) {
            Cases.due("judged " + what, x.judged(what), due[what]);
        }
    }

    static void promise21_judged_theLatestAlone() {
        BentPenny x = Bench.withWay(Bench.TABLE, Cases.CLOSED_WAY);
        Bench.tape(x, "q 1;w 1;q 0;so y;").evening();
        judged(x, 5, 3, 2, 0);
        Bench.tape(x, "").evening();
        judged(x, 0, 0, 0, NONE);
    }

    static void promise21_judged_aLaterOneThatWasNotJudgedLeavesIt() {
        BentPenny x = Bench.withWay(Bench.TABLE, Cases.CLOSED_WAY);
        Bench.tape(x, "q 1;w 1;q 0;so y;").evening();
        Bench.tape(x, "q 0;q 0;%").evening();
        judged(x, 5, 3, 2, 0);
        Bench.tape(x, Bench.TABLE).table();
        judged(x, 5, 3, 2, 0);
        Bench.tape(x, "q 0;").evening();
        judged(x, 5, 3, 2, 0);
    }

    static void promise21_judged_roundsBegunByThrowsAlone() {
        BentPenny x = Bench.withWay("coin q 1 2;end a;", "q(a:again)");
        Bench.tape(x, "q 1;").evening();
        judged(x, 0, 1, 1, NONE);
        Bench.tape(x, "q 1;q 1;").evening();
        judged(x, 0, 2, 2, NONE);
        Bench.tape(x, "q 1;q 2;").evening();
        judged(x, 3, 1, 1, NONE);
    }

    static void promise21_judged_endedWithoutAThrow() {
        BentPenny x = Bench.withWay(Bench.TABLE, "y");
        Bench.tape(x, "").evening();
        judged(x, 0, 0, 0, 1);
        Bench.tape(x, "so y;").evening();
        judged(x, 0, 0, 0, 1);
    }

    static void promise21_judged_theLastOfSixEnds() {
        BentPenny x = Bench.withWay(SIX, "p(a:f)");
        Bench.tape(x, "p 1;so f;").evening();
        judged(x, 0, 1, 1, 5);
    }
}
