/** Promises 22 to 36: even choices out of ROWS, shares by honest throws, mixed THINGS, luck and RUNS. */
final class RowsTest {
    private static final int NONE = BentPenny.NONE;
    private static final Bench t = new Bench();
    private static final String THIRDS = "end x 1 3;end y 2 3;";

    public static void main(String[] args) {
        promise22();
        promise23();
        promise24();
        promise25();
        promise26();
        promise27();
        promises28And29();
        promise30();
        promise31();
        promise32();
        promise33();
        promise34();
        promises35And36();
        t.close("RowsTest");
    }

    private static BentPenny fed(String row) {
        return Bench.tape(new BentPenny(), row);
    }

    private static void pairs(String row, String bits) {
        BentPenny x = fed(row);
        t.bits("pairs of " + row, x, x.pairs(), bits);
        t.due("the tape after " + row, x.count(4), 0);
    }

    private static void promise22() {
        pairs("", "");
        pairs("h", "");
        pairs("ht", "1");
        pairs("th", "0");
        pairs("hh", "");
        pairs("hhtthtthh", "10");
        pairs("tht", "0");
        pairs("hhthththt", "000");
        t.due("600 throws", fed(Bench.times("ht", 300)).pairs(), 300);
        BentPenny x = fed(Bench.times("h", 601));
        t.due("601 throws", x.pairs(), NONE);
        t.due("601 throws: the tape", x.count(4), 0);
        t.due("another sign", fed("hxt").pairs(), NONE);
        t.due("a blank", fed("h t").pairs(), NONE);
        t.due("great letters", fed("HT").pairs(), NONE);
    }

    private static void spared(String row, String bits) {
        BentPenny x = fed(row);
        t.bits("spared of " + row, x, x.spared(), bits);
        t.due("the tape after " + row, x.count(4), 0);
    }

    private static String sparedOf(String row) {
        if (row.length() < 2) {
            return "";
        }
        StringBuilder bits = new StringBuilder();
        StringBuilder kinds = new StringBuilder();
        StringBuilder likes = new StringBuilder();
        for (int i = 0; i + 1 < row.length(); i += 2) {
            boolean like = row.charAt(i) == row.charAt(i + 1);
            kinds.append(like ? 't' : 'h');
            if (like) {
                likes.append(row.charAt(i));
            } else {
                bits.append(row.charAt(i) == 'h' ? 1 : 0);
            }
        }
        return bits + sparedOf(kinds.toString()) + sparedOf(likes.toString());
    }

    private static String rowOf(int size, int seed, int headsOfEight) {
        StringBuilder row = new StringBuilder();
        int x = seed;
        for (int i = 0; i < size; i++) {
            x = x * 1103515245 + 12345;
            row.append((x >>> 16) % 8 < headsOfEight ? 'h' : 't');
        }
        return row.toString();
    }

    private static void promise23() {
        spared("", "");
        spared("t", "");
        spared("ht", "1");
        spared("hh", "");
        spared("hhtt", "1");
        spared("htth", "10");
        spared("hhht", "10");
        spared("hthh", "11");
        spared("tthhh", "0");
        for (int seed = 1; seed <= 8; seed++) {
            spared(rowOf(75 * seed, seed, seed), sparedOf(rowOf(75 * seed, seed, seed)));
        }
        spared(rowOf(600, 99, 4), sparedOf(rowOf(600, 99, 4)));
        spared(Bench.times("h", 599) + "t", sparedOf(Bench.times("h", 599) + "t"));
        t.due("601 throws", fed(Bench.times("h", 601)).spared(), NONE);
        t.due("another sign", fed("hht.").spared(), NONE);
    }

    private static void pasts(String row, String bits) {
        BentPenny x = fed(row);
        t.bits("pasts of " + row, x, x.pasts(), bits);
        t.due("the tape after " + row, x.count(4), 0);
    }

    private static void promise24() {
        pasts("", "");
        pasts("h", "");
        pasts("hthht", "0");
        // behind h: t h t (t); behind t: h h (t)
        pasts("hthhthtt", "0");
        // behind h: t t (h); behind t: h t t h t t (h)
        pasts("thttthttthh", "10");
        // behind h: t h t (h); behind t: h t (h)
        pasts("hthhtthh", "01");
        pasts(Bench.times("h", 10), "");
        // behind h: h t 199 times, h and (t); behind t: h alone
        BentPenny x = fed(Bench.times("hht", 200));
        t.due("600 throws", x.pasts(), 199);
        t.due("its first", x.bit(0), 1);
        t.due("601 throws", fed(Bench.times("h", 601)).pasts(), NONE);
        t.due("another sign", fed("hhtT").pasts(), NONE);
    }

    private static int heads(int row) {
        return Integer.bitCount(row);
    }

    /** COUNTED of a row whose throws are the bits of a number, the first the highest; h is greater than t. */
    private static String countedOf(int size, int row) {
        long place = 0;
        long like = 0;
        for (int other = 0; other < 1 << size; other++) {
            if (heads(other) == heads(row)) {
                like++;
                place += other < row ? 1 : 0;
            }
        }
        StringBuilder bits = new StringBuilder();
        for (int j = 20; j >= 0; j--) {
            long block = 1L << j;
            if ((like & block) != 0) {
                if (place < block) {
                    for (int i = j - 1; i >= 0; i--) {
                        bits.append(place >> i & 1);
                    }
                    return bits.toString();
                }
                place -= block;
            }
        }
        return "too many";
    }

    private static void counted(int size, int row) {
        StringBuilder throwsOfRow = new StringBuilder();
        for (int i = size - 1; i >= 0; i--) {
            throwsOfRow.append((row >> i & 1) == 1 ? 'h' : 't');
        }
        BentPenny x = fed(throwsOfRow.toString());
        t.bits("counted of " + throwsOfRow, x, x.counted(), countedOf(size, row));
        t.due("the tape", x.count(4), 0);
    }

    private static void promise25() {
        BentPenny x = fed("tth");
        // 3 rows: tth, tht, htt; 2 + 1: the first two have one BIT, the last has none
        t.bits("counted of tth", x, x.counted(), "0");
        Bench.tape(x, "tht");
        t.bits("counted of tht", x, x.counted(), "1");
        Bench.tape(x, "htt");
        t.bits("counted of htt", x, x.counted(), "");
        Bench.tape(x, "h");
        t.bits("counted of h", x, x.counted(), "");
        for (int row = 0; row < 64; row++) {
            counted(6, row);
        }
        counted(16, 0x00ff);
        counted(16, 0xff00);
        counted(16, 0xa5c3);
        counted(16, 0xffff);
        counted(16, 0x8000);
        t.due("no throws", fed("").counted(), NONE);
        x = fed(Bench.times("ht", 8) + "h");
        t.due("17 throws", x.counted(), NONE);
        t.due("17 throws: the tape", x.count(4), 0);
        t.due("another sign", fed("hht ").counted(), NONE);
    }

    private static void promise26() {
        BentPenny x = new BentPenny();
        t.due("ahead of any", x.bit(0), NONE);
        Bench.tape(x, "htht").pairs();
        t.due("bit(1)", x.bit(1), 1);
        t.due("bit(2)", x.bit(2), NONE);
        t.due("bit(-1)", x.bit(-1), NONE);
        Bench.tape(x, "x").spared();
        t.due("NONE leaves them", x.bit(1), 1);
        Bench.tape(x, "th").spared();
        t.due("the latest", x.bit(0), 0);
        t.due("the latest alone", x.bit(1), NONE);
        Bench.tape(x, "").pasts();
        t.due("none of no throws", x.bit(0), NONE);
    }

    private static void countedMean(int n, int k, int m) {
        BentPenny x = new BentPenny();
        long sum = 0;
        for (int row = 0; row < 1 << n; row++) {
            long weight = countedOf(n, row).length();
            for (int i = 0; i < n; i++) {
                weight *= (row >> i & 1) == 1 ? k : m - k;
            }
            sum += weight;
        }
        long all = 1;
        for (int i = 0; i < n; i++) {
            all *= m;
        }
        long divisor = java.math.BigInteger.valueOf(sum).gcd(java.math.BigInteger.valueOf(all)).longValue();
        t.fraction("countedMean(" + n + ", " + k + ", " + m + ")", () -> x.countedMean(n, k, m, 0),
                () -> x.countedMean(n, k, m, 1), sum / divisor, all / divisor);
    }

    private static void promise27() {
        BentPenny x = new BentPenny();
        t.fraction("one throw", () -> x.countedMean(1, 1, 2, 0), () -> x.countedMean(1, 1, 2, 1), 0, 1);
        t.fraction("two throws", () -> x.countedMean(2, 1, 2, 0), () -> x.countedMean(2, 1, 2, 1), 1, 2);
        t.fraction("never heads", () -> x.countedMean(9, 0, 9, 0), () -> x.countedMean(9, 0, 9, 1), 0, 1);
        t.fraction("always heads", () -> x.countedMean(9, 9, 9, 0), () -> x.countedMean(9, 9, 9, 1), 0, 1);
        for (int n = 2; n <= 8; n++) {
            countedMean(n, n % 4, 4 + n % 3);
        }
        // the greatest: 16 throws by 4 of 9
        t.due("16 throws", x.countedMean(16, 4, 9, 1) > 1L << 45 ? 1 : 0, 1);
        t.none("n 0", () -> x.countedMean(0, 1, 2, 0));
        t.none("n 17", () -> x.countedMean(17, 1, 2, 0));
        t.none("m 1", () -> x.countedMean(2, 1, 1, 0));
        t.none("m 10", () -> x.countedMean(2, 1, 10, 0));
        t.none("k -1", () -> x.countedMean(2, -1, 2, 0));
        t.none("k above m", () -> x.countedMean(2, 3, 2, 0));
        t.none("what 2", () -> x.countedMean(2, 1, 2, 2));
        t.none("what -1", () -> x.countedMean(2, 1, 2, -1));
    }

    private static void shared(String table, String row, int end, int took) {
        BentPenny x = Bench.withTable(table);
        t.due("shared() of " + row, Bench.tape(x, row).shared(), end);
        t.due("took() of " + row, x.took(), took);
        t.due("the tape", x.count(4), 0);
    }

    private static void promises28And29() {
        shared(THIRDS, "t", 1, 1);
        shared(THIRDS, "ht", 0, 2);
        shared(THIRDS, "hht", 1, 3);
        shared(THIRDS, "hhht", 0, 4);
        shared(THIRDS, "hhhtttttt", 0, 4);
        shared(THIRDS, "hhh", NONE, NONE);
        shared(THIRDS, "", NONE, NONE);
        shared(THIRDS, Bench.times("h", 600), NONE, NONE);
        shared(THIRDS, Bench.times("h", 599) + "t", 0, 600);
        shared(THIRDS, Bench.times("h", 601), -2, NONE);
        shared(THIRDS, "tx", -2, NONE);
        shared("end x 1 2;end y 1 2;", "t", 0, 1);
        shared("end x 1 2;end y 1 2;", "h", 1, 1);
        // 1 of 6 is .0010101.., so the first row of each END is one of three throws
        String die = "end a 1 6;end b 1 6;end c 1 6;end d 1 6;end e 1 6;end f 1 6;";
        shared(die, "ttt", 0, 3);
        shared(die, "hth", 5, 3);
        shared(die, "hht", NONE, NONE);
        shared(die, "hhtt", NONE, NONE);
        shared(die, "hhttt", 0, 5);
        shared("end a 0 4;end b 4 4;", "", 1, 0);
        shared("end a 0 4;end b 4 4;", "hh", 1, 0);
        shared("end a 0 4;end b 4 4;", "x", -2, NONE);
        shared("end a 0 4;end b 1 4;end c 3 4;", "h", NONE, NONE);
        shared("end a 0 4;end b 1 4;end c 3 4;", "ht", 1, 2);
        shared("end a 1 2;end b 2 4;", "t", -2, NONE);
        shared("end a 1 3;end b 1 3;", "t", -2, NONE);
        shared("end a 2 3;end b 2 3;", "t", -2, NONE);
        shared("end a 1 2;end b 1 2;end c;", "t", -2, NONE);
        shared("coin q 1 2;", "t", -2, NONE);
        BentPenny x = Bench.withTable(THIRDS);
        t.due("ahead of any", x.took(), NONE);
        Bench.tape(x, "ht").shared();
        Bench.tape(x, "hh").shared();
        t.due("too short leaves it", x.took(), 2);
        Bench.tape(x, "q").shared();
        t.due("not as told leaves it", x.took(), 2);
        evenly(die, 3, 6);
        evenly("end a 3 10;end b 1 10;end c 6 10;", 8, 3);
    }

    /** Each END has of all rows of n throws as many as its share by twos, cut behind place n, says. */
    private static void evenly(String table, int n, int ends) {
        BentPenny x = Bench.withTable(table);
        int[] had = new int[ends];
        for (int row = 0; row < 1 << n; row++) {
            StringBuilder throwsOfRow = new StringBuilder();
            for (int i = n - 1; i >= 0; i--) {
                throwsOfRow.append((row >> i & 1) == 1 ? 'h' : 't');
            }
            int end = Bench.tape(x.count(1) == ends ? x : Bench.withTable(table), throwsOfRow.toString()).shared();
            if (end >= 0) {
                had[end]++;
            }
            if (row % 30 == 29) {
                x = Bench.withTable(table);
            }
        }
        for (int e = 0; e < ends; e++) {
            t.due("rows of " + e, had[e], (x.share(e, 0) << n) / x.share(e, 1));
        }
    }

    private static void fewest(String table, long above, long below) {
        BentPenny x = Bench.withTable(table);
        t.fraction("fewest of " + table, () -> x.fewest(0), () -> x.fewest(1), above, below);
    }

    private static void promise30() {
        fewest("end x 1 2;end y 1 2;", 1, 1);
        fewest(THIRDS, 2, 1);
        fewest("end a 1 6;end b 1 6;end c 1 6;end d 1 6;end e 1 6;end f 1 6;", 11, 3);
        fewest("end a 1 1;", 0, 1);
        fewest("end a 0 20;end b 20 20;", 0, 1);
        fewest("end a 1 4;end b 3 4;", 3, 2);
        fewest("end a 2 4;end b 2 4;", 1, 1);
        fewest("end a 1 16;end b 15 16;", 15, 8);
        // 1 of 5 is .0011 and again, 4 of 5 .1100: one row of those open at each place
        fewest("end a 1 5;end b 4 5;", 2, 1);
        fewest("end a 2 5;end b 2 5;end c 1 5;", 14, 5);
        fewest("end a 1 19;end b 18 19;", 2, 1);
        BentPenny x = Bench.withTable(THIRDS);
        t.none("what 2", () -> x.fewest(2));
        t.none("what -1", () -> x.fewest(-1));
        t.none("no shares", () -> Bench.withTable("end a;end b;").fewest(0));
        t.none("not all", () -> Bench.withTable("end a 1 3;end b 1 3;").fewest(0));
        t.none("no ENDS", () -> new BentPenny().fewest(0));
    }

    private static void promise31() {
        BentPenny x = Bench.withTable(THIRDS);
        t.due("of one row", x.nearest(0, 0), 0);
        t.due("of one row", x.nearest(0, 1), 1);
        t.due("of four rows", x.nearest(2, 0), 1);
        t.due("of four rows", x.nearest(2, 1), 3);
        t.due("of 2^20 rows", x.nearest(20, 0), 349525);
        t.due("of 2^20 rows", x.nearest(20, 1), 699051);
        BentPenny y = Bench.withTable("end a 1 4;end b 1 4;end c 1 4;end d 1 4;");
        int[] due = {1, 1, 0, 0};
        for (int e = 0; e < 4; e++) {
            t.due("of like rests the first", y.nearest(1, e), due[e]);
            t.due("none left", y.nearest(3, e), 2);
        }
        BentPenny z = Bench.withTable("end a 0 10;end b 1 10;end c 2 10;end d 7 10;");
        // 2^3 by tenths: 0, 0 rest 8, 1 rest 6, 5 rest 6: two more rows
        int[] eight = {0, 1, 2, 5};
        for (int e = 0; e < 4; e++) {
            t.due("the greatest rests", z.nearest(3, e), eight[e]);
        }
        t.due("n -1", x.nearest(-1, 0), NONE);
        t.due("n 21", x.nearest(21, 0), NONE);
        t.due("END 2", x.nearest(1, 2), NONE);
        t.due("END -1", x.nearest(1, -1), NONE);
        t.due("no shares", Bench.withTable("end a 1 2;end b;").nearest(1, 0), NONE);
        t.due("all of it", Bench.withTable("end a 3 3;").nearest(20, 0), 1 << 20);
    }

    private static void off(String table, int n, long above, long below) {
        BentPenny x = Bench.withTable(table);
        t.fraction("off of " + table + " by " + n, () -> x.off(n, 0), () -> x.off(n, 1), above, below);
    }

    private static void promise32() {
        off(THIRDS, 0, 1, 3);
        off(THIRDS, 1, 1, 6);
        off(THIRDS, 2, 1, 12);
        off(THIRDS, 20, 1, 3L << 20);
        off("end x 1 2;end y 1 2;", 0, 1, 2);
        off("end x 1 2;end y 1 2;", 1, 0, 1);
        off("end a 0 10;end b 1 10;end c 2 10;end d 7 10;", 3, 3, 40);
        BentPenny x = Bench.withTable(THIRDS);
        t.none("n -1", () -> x.off(-1, 0));
        t.none("n 21", () -> x.off(21, 0));
        t.none("what 2", () -> x.off(1, 2));
        t.none("no shares", () -> Bench.withTable("end a 1 2;").off(1, 0));
    }

    private static void mixed(BentPenny x, int set, int rest, long above, long below) {
        t.fraction("mixed(" + set + ", " + rest + ")", () -> x.mixed(set, rest, 0), () -> x.mixed(set, rest, 1), above, below);
    }

    private static void promise33() {
        BentPenny x = Bench.withTable("coin a 1 3;coin b 1 2;wheel w 3 1;");
        mixed(x, 1, 0, 1, 3);
        mixed(x, 1, 1, 2, 3);
        mixed(x, 2, 0, 1, 2);
        mixed(x, 3, 1, 1, 2);
        mixed(x, 5, 0, 5, 12);
        mixed(x, 5, 1, 7, 12);
        mixed(x, 7, 0, 1, 2);
        BentPenny y = Bench.withTable("wheel u 1 1 1;wheel v 1 2 3;coin p open;");
        mixed(y, 2, 2, 1, 2);
        mixed(y, 3, 2, 1, 3);
        BentPenny z = Bench.withTable("wheel u 1 2 3;wheel v 1 2 3;coin q 1 2;");
        // rest 1 of 3: 0 and 1, 1 and 0, 2 and 2
        mixed(z, 3, 1, 13, 36);
        t.none("none", () -> x.mixed(0, 0, 0));
        t.none("THING 3", () -> x.mixed(8, 0, 0));
        t.none("THING 3 too", () -> x.mixed(9, 0, 0));
        t.none("below 0", () -> x.mixed(-1, 0, 0));
        t.none("rest 2", () -> x.mixed(3, 2, 0));
        t.none("rest -1", () -> x.mixed(3, -1, 0));
        t.none("what 2", () -> x.mixed(3, 0, 2));
        t.none("what -1", () -> x.mixed(3, 0, -1));
        t.none("open", () -> y.mixed(4, 0, 0));
        t.none("SIDES unlike", () -> z.mixed(5, 0, 0));
        t.none("an empty TABLE", () -> new BentPenny().mixed(1, 0, 0));
    }

    private static void luck(int n, int k, long above, long below) {
        BentPenny x = new BentPenny();
        t.fraction("luck(" + n + ", " + k + ")", () -> x.luck(n, k, 0), () -> x.luck(n, k, 1), above, below);
    }

    private static void promise34() {
        luck(1, 0, 1, 1);
        luck(2, 1, 1, 1);
        luck(2, 2, 1, 2);
        luck(2, 0, 1, 2);
        luck(3, 1, 1, 1);
        luck(3, 3, 1, 4);
        luck(10, 8, 7, 64);
        luck(10, 2, 7, 64);
        luck(60, 60, 1, 1L << 59);
        luck(60, 30, 1, 1);
        BentPenny x = new BentPenny();
        t.none("n 0", () -> x.luck(0, 0, 0));
        t.none("n 61", () -> x.luck(61, 1, 0));
        t.none("k -1", () -> x.luck(5, -1, 0));
        t.none("k above n", () -> x.luck(5, 6, 0));
        t.none("what 2", () -> x.luck(5, 5, 2));
        t.none("what -1", () -> x.luck(5, 5, -1));
    }

    private static int runsOf(int size, int row) {
        int runs = 1;
        for (int i = 1; i < size; i++) {
            runs += (row >> i & 1) != (row >> i - 1 & 1) ? 1 : 0;
        }
        return runs;
    }

    private static void seldom(int size, int row) {
        StringBuilder throwsOfRow = new StringBuilder();
        for (int i = size - 1; i >= 0; i--) {
            throwsOfRow.append((row >> i & 1) == 1 ? 'h' : 't');
        }
        long like = 0;
        long fewer = 0;
        for (int other = 0; other < 1 << size; other++) {
            if (heads(other) == heads(row)) {
                like++;
                fewer += runsOf(size, other) <= runsOf(size, row) ? 1 : 0;
            }
        }
        BentPenny x = fed(throwsOfRow.toString());
        t.due("runs of " + throwsOfRow, x.runs(), runsOf(size, row));
        t.due("the tape", x.count(4), 0);
        t.due("seldom of " + throwsOfRow, x.seldom(0) * like, fewer * x.seldom(1));
        t.due("in least terms", java.math.BigInteger.valueOf(x.seldom(0))
                .gcd(java.math.BigInteger.valueOf(x.seldom(1))).intValue(), 1);
    }

    private static void promises35And36() {
        for (int row = 0; row < 128; row++) {
            seldom(7, row);
        }
        seldom(1, 0);
        seldom(2, 2);
        BentPenny x = new BentPenny();
        t.none("ahead of any", () -> x.seldom(0));
        t.due("no throws", x.runs(), NONE);
        t.none("only NONE so far", () -> x.seldom(0));
        t.due("60 throws", Bench.tape(x, Bench.times("t", 30) + Bench.times("h", 30)).runs(), 2);
        t.fraction("60 throws", () -> x.seldom(0), () -> x.seldom(1), 1, 59132290782430712L);
        t.due("60 throws, 60 RUNS", Bench.tape(x, Bench.times("th", 30)).runs(), 60);
        t.fraction("60 throws, 60 RUNS", () -> x.seldom(0), () -> x.seldom(1), 1, 1);
        Bench.tape(x, Bench.times("t", 30) + Bench.times("h", 30)).runs();
        t.due("61 throws", Bench.tape(x, Bench.times("h", 61)).runs(), NONE);
        t.due("61 throws: the tape", x.count(4), 0);
        t.due("another sign", Bench.tape(x, "hH").runs(), NONE);
        t.due("NONE leaves it", x.seldom(1), 59132290782430712L);
        t.none("what 2", () -> x.seldom(2));
        t.none("what -1", () -> x.seldom(-1));
    }
}
