import java.math.BigInteger;

/** The cases at the edges of promises 22 to 36: BITS out of ROWS, shares, mixed THINGS, LUCK and RUNS. */
final class EdgesOfRowsTest {
    private static final int NONE = BentPenny.NONE;
    private static final int[] OFF = {Cases.LEAST, Cases.LEAST + 1, -1000, -2, 1000, 1 << 30, Cases.GREATEST};
    private static final String THIRDS = "end x 1 3;end y 2 3;";
    private static final String SIXTHS = "end a 1 6;end b 1 6;end c 1 6;end d 1 6;end e 1 6;end f 1 6;";

    public static void main(String[] args) {
        Cases.runAll(EdgesOfRowsTest.class);
    }

    private static String times(String row, int many) {
        return Bench.times(row, many);
    }

    /** Rows that are not as told, where so many throws are the fewest and the most. */
    private static void notAsTold(int fewest, int most, String call, Cases.Call of, long want) {
        for (String sign : new String[] {"H", "T", " ", "\n", "x", "g", "i", "s", "u", "\0", "1", ";", "\u00e8", "\u00f4"}) {
            Cases.refusedTape(Cases::full, sign, call, of, want);
            Cases.refusedTape(Cases::full, "ht" + sign, call, of, want);
        }
        Cases.refusedTape(Cases::full, "xht", call, of, want);
        Cases.refusedTape(Cases::full, "hxt", call, of, want);
        Cases.refusedTape(Cases::full, times("h", most - 1) + "x", call, of, want);
        Cases.refusedTape(Cases::full, times("h", most + 1), call, of, want);
        Cases.refusedTape(Cases::full, times("t", 640), call, of, want);
        if (fewest > 0) {
            Cases.refusedTape(Cases::full, "", call, of, want);
        }
    }

    /** Objects with this TABLE: a new one, and such that have read long ROWS ahead. */
    private static BentPenny[] readers(String table) {
        BentPenny[] readers = {Bench.withTable(table), Bench.withTable(table), Bench.withTable(table)};
        Bench.tape(readers[1], times("h", 600)).spared();
        Bench.tape(readers[2], times("t", 600)).spared();
        return readers;
    }

    // ---- Promise 22: pairs ----

    private static void pairs(String row, String bits) {
        for (BentPenny x : readers("")) {
            Cases.bits("pairs() of " + row, x, Bench.tape(x, row).pairs(), bits);
            Cases.due("the tape", x.count(4), 0);
        }
    }

    static void promise22_pairs_ofNothing() {
        pairs("", "");
    }

    static void promise22_pairs_ofOneThrow() {
        pairs("h", "");
        pairs("t", "");
    }

    static void promise22_pairs_ofTwoThrows() {
        pairs("ht", "1");
        pairs("th", "0");
        pairs("hh", "");
        pairs("tt", "");
    }

    static void promise22_pairs_anOddLastOneIsLeftOut() {
        pairs("hth", "1");
        pairs("hht", "");
        pairs("thhtt", "01");
    }

    static void promise22_pairs_of600Throws() {
        BentPenny x = Cases.withTape(times("ht", 299) + "th");
        Cases.due("pairs()", x.pairs(), 300);
        Cases.due("BIT 0", x.bit(0), 1);
        Cases.due("BIT 298", x.bit(298), 1);
        Cases.due("BIT 299", x.bit(299), 0);
        Cases.due("BIT 300", x.bit(300), NONE);
    }

    static void promise22_pairs_notAsTold() {
        notAsTold(0, 600, "pairs()", x -> x.pairs(), NONE);
    }

    // ---- Promise 23: spared ----

    private static void spared(String row, String bits) {
        for (BentPenny x : readers("")) {
            Cases.bits("spared() of " + row, x, Bench.tape(x, row).spared(), bits);
            Cases.due("the tape", x.count(4), 0);
        }
    }

    static void promise23_spared_ofFewerThanTwo() {
        spared("", "");
        spared("h", "");
        spared("t", "");
    }

    static void promise23_spared_ofTwoAndThreeThrows() {
        spared("ht", "1");
        spared("th", "0");
        spared("hh", "");
        spared("hth", "1");
        spared("hht", "");
    }

    static void promise23_spared_pairsThenKindsThenLikes() {
        // hh tt: no PAIRS; kinds t t; likes h t: 1
        spared("hhtt", "1");
        // ht hh: PAIRS 1; kinds h t: 1; likes h
        spared("hthh", "11");
        // tt th: PAIRS 0; kinds t h: 0; likes t
        spared("ttth", "00");
        // ht ht tt hh: PAIRS 1 1; kinds h h t t: 1; likes t h: 0
        spared("hthttthh", "1110");
    }

    static void promise23_spared_anOddLastOneIsLeftOutEachTime() {
        // hh tt hh t: kinds t t t; likes h t h: 1
        spared("hhtthht", "1");
        spared("hhtthh", "1");
    }

    static void promise23_spared_of600Throws() {
        BentPenny x = Cases.withTape(times("h", 600));
        Cases.due("all like", x.spared(), 0);
        Cases.due("no BIT", x.bit(0), NONE);
        Bench.tape(x, times("ht", 300));
        Cases.due("all unlike", x.spared(), 300);
        Cases.due("BIT 299", x.bit(299), 1);
        // 75 times: 1 1; 150 kinds h h t t: 75 by two, 1; 150 likes t h: 0
        Bench.tape(x, times("hthttthh", 75));
        int many = x.spared();
        Cases.due("the 150th of PAIRS", x.bit(149), 1);
        Cases.due("behind them the kinds", x.bit(150), 1);
        Cases.due("the last likes", x.bit(many - 1), 0);
        Cases.due("behind them", x.bit(many), NONE);
        Cases.due("as many as", many, 150 + sparedOf(times("hhtt", 75)) + sparedOf(times("th", 75)));
    }

    private static int sparedOf(String row) {
        if (row.length() < 2) {
            return 0;
        }
        int pairs = 0;
        StringBuilder kinds = new StringBuilder();
        StringBuilder likes = new StringBuilder();
        for (int i = 0; i + 1 < row.length(); i += 2) {
            boolean like = row.charAt(i) == row.charAt(i + 1);
            pairs += like ? 0 : 1;
            kinds.append(like ? 't' : 'h');
            likes.append(like ? row.substring(i, i + 1) : "");
        }
        return pairs + sparedOf(kinds.toString()) + sparedOf(likes.toString());
    }

    static void promise23_spared_manyBitsOf600Throws() {
        StringBuilder row = new StringBuilder();
        int seed = 5;
        for (int i = 0; i < 600; i++) {
            seed = seed * 1103515245 + 12345;
            row.append((seed >>> 20 & 1) == 1 ? 'h' : 't');
        }
        BentPenny x = Cases.withTape(row.toString());
        int many = x.spared();
        Cases.due("spared()", many, sparedOf(row.toString()));
        Cases.due("more than 300", many > 400, true);
        Cases.due("the last BIT", x.bit(many - 1) != NONE, true);
        Cases.due("behind it", x.bit(many), NONE);
    }

    static void promise23_spared_notAsTold() {
        notAsTold(0, 600, "spared()", x -> x.spared(), NONE);
    }

    // ---- Promise 24: pasts ----

    private static void pasts(String row, String bits) {
        for (BentPenny x : readers("")) {
            Cases.bits("pasts() of " + row, x, Bench.tape(x, row).pasts(), bits);
            Cases.due("the tape", x.count(4), 0);
        }
    }

    static void promise24_pasts_ofNothingAndOneThrow() {
        pasts("", "");
        pasts("h", "");
        pasts("t", "");
    }

    static void promise24_pasts_theLastThatFollowsIsLeftOut() {
        // behind h: h t alone, the t is the last of them
        pasts("hht", "");
        // behind h: h t h, the h is the last of them; behind t: h
        pasts("hhthh", "1");
        // behind h: h t, the t is the last of them; behind t: h
        pasts("hhth", "");
        // behind h: h t; behind t: t h, the h is the last of them
        pasts("tthht", "");
        // behind h: t t h; behind t: h h h
        pasts("thththh", "");
    }

    static void promise24_pasts_thoseBehindTFollow() {
        // behind t: t h h; behind h: t
        pasts("tthth", "0");
        // behind h: h t (t); behind t: t h (h)
        pasts("hhtthth", "10");
    }

    static void promise24_pasts_headsAheadOfTails() {
        // behind h: h t (t); behind t: t h (t)
        pasts("hhttht" + "t", "10");
        // behind h: t h (t); behind t: h t (h)
        pasts("hthhtth", "01");
    }

    static void promise24_pasts_of600Throws() {
        BentPenny x = Cases.withTape(times("hht", 200));
        Cases.due("pasts()", x.pasts(), 199);
        Cases.due("BIT 198", x.bit(198), 1);
        Cases.due("BIT 199", x.bit(199), NONE);
        Bench.tape(x, times("h", 600));
        Cases.due("all like", x.pasts(), 0);
        Bench.tape(x, times("ht", 300));
        Cases.due("by turns", x.pasts(), 0);
    }

    static void promise24_pasts_notAsTold() {
        notAsTold(0, 600, "pasts()", x -> x.pasts(), NONE);
    }

    // ---- Promise 25: counted ----

    private static void counted(String row, String bits) {
        for (BentPenny x : readers("")) {
            Cases.bits("counted() of " + row, x, Bench.tape(x, row).counted(), bits);
            Cases.due("the tape", x.count(4), 0);
        }
    }

    static void promise25_counted_ofOneThrow() {
        counted("h", "");
        counted("t", "");
    }

    static void promise25_counted_ofTwoThrows() {
        counted("th", "0");
        counted("ht", "1");
        counted("hh", "");
        counted("tt", "");
    }

    static void promise25_counted_theLastPowerOfTwoIs1() {
        // of three: two have one BIT, the third none
        counted("tth", "0");
        counted("tht", "1");
        counted("htt", "");
        counted("thh", "0");
        counted("hth", "1");
        counted("hht", "");
    }

    static void promise25_counted_twoPowersOfTwo() {
        // of six: 4 and 2
        counted("tthh", "00");
        counted("thth", "01");
        counted("thht", "10");
        counted("htth", "11");
        counted("htht", "0");
        counted("hhtt", "1");
    }

    static void promise25_counted_of16Throws() {
        // 16 rows with one h: a power of two of them
        counted(times("t", 15) + "h", "0000");
        counted("h" + times("t", 15), "1111");
        counted(times("h", 16), "");
        // 12870 rows with eight: 8192, 4096, 512, 64, 4, 2
        counted(times("t", 8) + times("h", 8), times("0", 13));
        counted(times("h", 8) + times("t", 8), "1");
        // the first with an h ahead is 6435: below 8192
        counted("h" + times("t", 8) + times("h", 7), "1100100100011");
    }

    static void promise25_counted_of17ThrowsAndOfNone() {
        Cases.refusedTape(Cases::full, times("h", 17), "counted()", x -> x.counted(), NONE);
        Cases.refusedTape(Cases::full, "", "counted()", x -> x.counted(), NONE);
    }

    static void promise25_counted_notAsTold() {
        notAsTold(1, 16, "counted()", x -> x.counted(), NONE);
    }

    // ---- Promise 26: bit ----

    static void promise26_bit_aheadOfAny() {
        Cases.refused(Cases::fresh, "bit(0)", x -> x.bit(0), NONE);
        BentPenny x = Cases.withTape("x");
        x.pairs();
        Cases.due("after NONE alone", x.bit(0), NONE);
    }

    static void promise26_bit_theFirstAndTheLast() {
        BentPenny x = Cases.withTape("htthht");
        x.pairs();
        Cases.due("BIT 0", x.bit(0), 1);
        Cases.due("BIT 2", x.bit(2), 1);
    }

    static void promise26_bit_noneSuch() {
        Cases.refused(Cases::full, "bit(3)", x -> x.bit(3), NONE);
        Cases.refused(Cases::full, "bit(-1)", x -> x.bit(-1), NONE);
        for (int i : OFF) {
            Cases.due("bit(" + i + ")", Cases.full().bit(i), NONE);
        }
    }

    static void promise26_bit_ofTheLatestOfFour() {
        BentPenny x = Cases.withTape("ththth");
        x.pairs();
        Cases.bits("spared()", x, Bench.tape(x, "ht").spared(), "1");
        Cases.bits("pasts()", x, Bench.tape(x, "tthth").pasts(), "0");
        Cases.bits("counted()", x, Bench.tape(x, "thht").counted(), "10");
        Cases.bits("pairs()", x, Bench.tape(x, "th").pairs(), "0");
    }

    static void promise26_bit_noneLeavesThem() {
        BentPenny x = Cases.withTape("htth");
        x.pairs();
        Bench.tape(x, "tx").pairs();
        Bench.tape(x, "thx").spared();
        Bench.tape(x, times("h", 601)).pasts();
        Bench.tape(x, "").counted();
        Bench.tape(x, times("h", 17)).counted();
        Cases.due("BIT 0", x.bit(0), 1);
        Cases.due("BIT 1", x.bit(1), 0);
        Cases.due("BIT 2", x.bit(2), NONE);
    }

    static void promise26_bit_ofALatestWithoutBits() {
        BentPenny x = Cases.withTape("htth");
        x.pairs();
        Cases.due("pairs() of nothing", x.pairs(), 0);
        Cases.due("BIT 0", x.bit(0), NONE);
    }

    static void promise26_bit_otherCallsOnRowsLeaveThem() {
        BentPenny x = Bench.withTable(THIRDS);
        Bench.tape(x, "htth").pairs();
        Bench.tape(x, "hhhh").runs();
        Bench.tape(x, "hhhh").shared();
        Cases.due("BIT 0", x.bit(0), 1);
        Cases.due("BIT 1", x.bit(1), 0);
    }

    // ---- Promise 27: countedMean ----

    private static void countedMean(int n, int k, int m, long above, long below) {
        Cases.fraction("countedMean of " + n + " by " + k + " of " + m, new BentPenny(),
                (x, what) -> x.countedMean(n, k, m, what), above, below);
    }

    static void promise27_countedMean_ofOneThrow() {
        countedMean(1, 1, 2, 0, 1);
        countedMean(1, 4, 9, 0, 1);
    }

    static void promise27_countedMean_ofTwoThrows() {
        countedMean(2, 1, 2, 1, 2);
        countedMean(2, 1, 9, 16, 81);
    }

    static void promise27_countedMean_of16Throws() {
        // heads of 16 by rows: 16 4s; 120: 64 32 16 8; ..: each power of two times its exponent
        long sum = 0;
        long[] rows = {1, 16, 120, 560, 1820, 4368, 8008, 11440, 12870, 11440, 8008, 4368, 1820, 560, 120, 16, 1};
        for (long like : rows) {
            for (int j = 0; j < 20; j++) {
                sum += (like >> j & 1) * j << j;
            }
        }
        long divisor = Long.lowestOneBit(sum);
        countedMean(16, 1, 2, sum / divisor, 65536 / divisor);
        countedMean(16, 4, 9, 21464717592164480L, 1853020188851841L);
    }

    static void promise27_countedMean_mOf2And9() {
        countedMean(3, 1, 2, 1, 2);
        countedMean(3, 1, 9, 16, 81);
        countedMean(3, 8, 9, 16, 81);
    }

    static void promise27_countedMean_kOf0AndM() {
        countedMean(16, 0, 2, 0, 1);
        countedMean(16, 2, 2, 0, 1);
        countedMean(16, 0, 9, 0, 1);
        countedMean(16, 9, 9, 0, 1);
    }

    static void promise27_countedMean_nOf0And17() {
        Cases.refused(Cases::full, "countedMean(0, 1, 2, 0)", x -> x.countedMean(0, 1, 2, 0), Cases.THROWS);
        Cases.refused(Cases::full, "countedMean(17, 1, 2, 0)", x -> x.countedMean(17, 1, 2, 0), Cases.THROWS);
        Cases.due("n -1", new BentPenny(), x -> x.countedMean(-1, 1, 2, 0), Cases.THROWS);
        for (int n : OFF) {
            Cases.due("n " + n, new BentPenny(), x -> x.countedMean(n, 1, 2, 0), Cases.THROWS);
        }
    }

    static void promise27_countedMean_mOf1And10() {
        Cases.refused(Cases::full, "countedMean(2, 1, 1, 0)", x -> x.countedMean(2, 1, 1, 0), Cases.THROWS);
        Cases.refused(Cases::full, "countedMean(2, 1, 10, 0)", x -> x.countedMean(2, 1, 10, 0), Cases.THROWS);
        Cases.due("m 0", new BentPenny(), x -> x.countedMean(2, 0, 0, 0), Cases.THROWS);
        for (int m : OFF) {
            Cases.due("m " + m, new BentPenny(), x -> x.countedMean(2, 1, m, 0), Cases.THROWS);
        }
    }

    static void promise27_countedMean_kBelow0AndAboveM() {
        Cases.refused(Cases::full, "countedMean(2, -1, 2, 0)", x -> x.countedMean(2, -1, 2, 0), Cases.THROWS);
        Cases.refused(Cases::full, "countedMean(2, 3, 2, 0)", x -> x.countedMean(2, 3, 2, 0), Cases.THROWS);
        Cases.due("10 of 9", new BentPenny(), x -> x.countedMean(2, 10, 9, 0), Cases.THROWS);
        for (int k : OFF) {
            Cases.due("k " + k, new BentPenny(), x -> x.countedMean(2, k, 9, 0), Cases.THROWS);
        }
    }

    static void promise27_countedMean_noSuchWhat() {
        Cases.refused(Cases::full, "countedMean(2, 1, 2, 2)", x -> x.countedMean(2, 1, 2, 2), Cases.THROWS);
        Cases.refused(Cases::full, "countedMean(2, 1, 2, -1)", x -> x.countedMean(2, 1, 2, -1), Cases.THROWS);
        for (int what : OFF) {
            Cases.due("what " + what, new BentPenny(), x -> x.countedMean(2, 1, 2, what), Cases.THROWS);
        }
    }

    // ---- Promises 28 and 29: shared, took ----

    private static void shared(String table, String row, int end, int took) {
        for (BentPenny x : readers(table)) {
            Cases.due("shared() of " + row, Bench.tape(x, row).shared(), end);
            Cases.due("took() of " + row, x.took(), took);
            Cases.due("the tape", x.count(4), 0);
        }
    }

    static void promise28_shared_byNoThrowWhereAnEndHasAll() {
        shared("end a 1 1;", "", 0, 0);
        shared("end a 0 20;end b 20 20;", "", 1, 0);
        shared("end a 0 20;end b 20 20;", times("h", 600), 1, 0);
        shared("end a 0 3;end b 0 3;end c 0 3;end d 0 3;end e 0 3;end f 3 3;", "t", 5, 0);
    }

    static void promise28_shared_ofNothingIsTooShort() {
        shared(THIRDS, "", NONE, NONE);
        Cases.refusedTape(Cases::full, "", "shared()", x -> x.shared(), NONE);
    }

    static void promise28_shared_byTheFirstThrow() {
        shared("end a 1 2;end b 1 2;", "t", 0, 1);
        shared("end a 1 2;end b 1 2;", "h", 1, 1);
        shared(THIRDS, "t", 1, 1);
    }

    static void promise28_shared_byTheLastThrowOfTheRow() {
        shared(THIRDS, "ht", 0, 2);
        shared(THIRDS, "hht", 1, 3);
        Cases.refusedTape(Cases::full, "hhh", "shared()", x -> x.shared(), NONE);
    }

    static void promise28_shared_throwsBehindItAreNotTaken() {
        shared(THIRDS, "t" + times("h", 599), 1, 1);
        shared(THIRDS, "htt", 0, 2);
    }

    static void promise28_shared_of600Throws() {
        shared(THIRDS, times("h", 599) + "t", 0, 600);
        shared(THIRDS, times("h", 598) + "t", 1, 599);
        Cases.refusedTape(Cases::full, times("h", 600), "shared()", x -> x.shared(), NONE);
    }

    static void promise28_shared_of601Throws() {
        Cases.refusedTape(Cases::full, times("h", 601), "shared()", x -> x.shared(), -2);
    }

    static void promise28_shared_endByEndInTheirOrder() {
        // 1 of 6 is .001 01 01 ..: of eight rows of three throws each END has one, two are left open
        String[] rows = {"ttt", "tth", "tht", "thh", "htt", "hth"};
        for (int e = 0; e < 6; e++) {
            shared(SIXTHS, rows[e], e, 3);
        }
        shared(SIXTHS, "hht", NONE, NONE);
        shared(SIXTHS, "hhh", NONE, NONE);
        shared(SIXTHS, "hhttt", 0, 5);
        shared(SIXTHS, "hhhth", 5, 5);
    }

    static void promise28_shared_anEndWithNothingHasNone() {
        shared("end a 0 4;end b 1 4;end c 3 4;", "t", 2, 1);
        shared("end a 0 4;end b 1 4;end c 3 4;", "ht", 1, 2);
        shared("end a 0 4;end b 1 4;end c 3 4;", "hh", 2, 2);
    }

    static void promise28_shared_mOf20() {
        // 19 of 20 is .1111 0011 0011 ..: the first throw t is it
        shared("end a 1 20;end b 19 20;", "t", 1, 1);
        shared("end a 1 20;end b 19 20;", "hhht", 1, 4);
        shared("end a 1 20;end b 19 20;", "hhhht", 0, 5);
    }

    static void promise28_shared_notAsTold() {
        notAsTold(0, 600, "shared()", x -> x.shared(), -2);
    }

    static void promise28_shared_notAsToldWhereAnEndHasAll() {
        Cases.refusedTape(() -> Cases.told("end a 0 4;end b 4 4;", "a"), "x", "shared()", x -> x.shared(), -2);
    }

    static void promise28_shared_noShares() {
        Cases.refusedTape(Cases::noShares, "t", "shared()", x -> x.shared(), -2);
        Cases.refusedTape(Cases::noShares, "", "shared()", x -> x.shared(), -2);
        Cases.refusedTape(Cases::fresh, "", "shared()", x -> x.shared(), -2);
        for (String table : NO_SHARES) {
            Cases.refusedTape(() -> Cases.told(table, "again"), "t", "shared()", x -> x.shared(), -2);
        }
    }

    /** One END without, M unlike, together less or more than M, no ENDS. */
    private static final String[] NO_SHARES = {"end a;end b;", "end a 1 2;end b 1 2;end c;", "end c;end a 1 2;end b 1 2;",
        "end a 1 2;end b 2 4;", "end a 1 1;end b 0 2;", "end a 1 3;end b 1 3;", "end a 2 3;end b 2 3;", "end a 0 1;",
        "end a 2 3;end b 1 3;end c 1 3;", "end a 19 20;", "end a 20 20;end b 1 20;", "coin q 1 2;", ""};

    static void promise29_took_aheadOfAny() {
        Cases.refused(Cases::fresh, "took()", x -> x.took(), NONE);
        BentPenny x = Bench.withTable(THIRDS);
        Bench.tape(x, "hh").shared();
        Cases.due("too short alone", x.took(), NONE);
        Bench.tape(x, "x").shared();
        Cases.due("not as told alone", x.took(), NONE);
    }

    static void promise29_took_ofTheLatestThatWasAnEnd() {
        BentPenny x = Bench.withTable(THIRDS);
        Bench.tape(x, "hhht").shared();
        Cases.due("four", x.took(), 4);
        Bench.tape(x, "hhh").shared();
        Cases.due("too short", x.took(), 4);
        Bench.tape(x, "hth").shared();
        Cases.due("two", x.took(), 2);
        Bench.tape(x, "hxh").shared();
        Cases.due("not as told", x.took(), 2);
        Bench.tape(x, "end a 3 3;").table();
        Bench.tape(x, "h").shared();
        Cases.due("none", x.took(), 0);
        x.table();
        Bench.tape(x, "t").shared();
        Cases.due("no shares", x.took(), 0);
    }

    // ---- Promise 30: fewest ----

    private static void fewest(String table, long above, long below) {
        Cases.fraction("FEWEST of " + table, Bench.withTable(table), (x, what) -> x.fewest(what), above, below);
    }

    static void promise30_fewest_whereAnEndHasAll() {
        fewest("end a 1 1;", 0, 1);
        fewest("end a 20 20;end b 0 20;", 0, 1);
    }

    static void promise30_fewest_byPowersOfTwo() {
        fewest("end a 1 2;end b 1 2;", 1, 1);
        fewest("end a 8 16;end b 8 16;", 1, 1);
        fewest("end a 1 16;end b 15 16;", 15, 8);
        fewest("end a 1 8;end b 1 8;end c 2 8;end d 4 8;", 7, 4);
    }

    static void promise30_fewest_byOthers() {
        fewest(THIRDS, 2, 1);
        fewest(SIXTHS, 11, 3);
        fewest("end a 1 5;end b 4 5;", 2, 1);
        fewest("end a 1 19;end b 18 19;", 2, 1);
        fewest("end a 2 6;end b 4 6;", 2, 1);
        fewest("end a 1 12;end b 11 12;", 2, 1);
    }

    static void promise30_fewest_mOf20() {
        // 1 of 20 is .00 0011 0011 .., 19 of 20 is .11 1100 1100 ..: one row of those open at each place
        fewest("end a 1 20;end b 19 20;", 2, 1);
        fewest("end a 5 20;end b 15 20;", 3, 2);
    }

    /** The mean by the rests of all shares, place by place, till they come again. */
    private static void fewestByRests(int whole, int... shares) {
        StringBuilder table = new StringBuilder();
        for (int e = 0; e < shares.length; e++) {
            table.append("end ").append((char) ('a' + e)).append(' ').append(shares[e]).append(' ').append(whole).append(';');
        }
        // the first five places, and the 360 behind them that come again: each period by M to 20 divides 360
        BigInteger turn = BigInteger.ONE.shiftLeft(360).subtract(BigInteger.ONE);
        BigInteger sum = BigInteger.ZERO;
        for (int i = 0; i < 5; i++) {
            sum = sum.add(turn.shiftLeft(5 - i).multiply(BigInteger.valueOf(openRows(whole, i, shares))));
        }
        for (int i = 0; i < 360; i++) {
            sum = sum.add(BigInteger.ONE.shiftLeft(360 - i).multiply(BigInteger.valueOf(openRows(whole, i + 5, shares))));
        }
        BigInteger below = turn.shiftLeft(5);
        BigInteger divisor = sum.gcd(below);
        fewest(table.toString(), sum.divide(divisor).longValueExact(), below.divide(divisor).longValueExact());
    }

    private static long openRows(int whole, int places, int... shares) {
        BigInteger m = BigInteger.valueOf(whole);
        long rests = 0;
        for (int k : shares) {
            rests += BigInteger.valueOf(k).shiftLeft(places).mod(m).longValue();
        }
        return rests / whole;
    }

    static void promise30_fewest_ofEachMTo20() {
        for (int m = 1; m <= 20; m++) {
            fewestByRests(m, 1, m - 1);
            fewestByRests(m, m / 3, m - m / 3);
            fewestByRests(m, m / 2, m / 3, m - m / 2 - m / 3);
            fewestByRests(m, m / 6, m / 6, m / 6, m / 6, m / 6, m - 5 * (m / 6));
        }
    }

    static void promise30_fewest_noShares() {
        Cases.refused(Cases::noShares, "fewest(0)", x -> x.fewest(0), Cases.THROWS);
        Cases.refused(Cases::fresh, "fewest(1)", x -> x.fewest(1), Cases.THROWS);
        for (String table : NO_SHARES) {
            Cases.due("fewest of " + table, Bench.withTable(table), x -> x.fewest(0), Cases.THROWS);
        }
    }

    static void promise30_fewest_anotherWhat() {
        Cases.refused(Cases::full, "fewest(2)", x -> x.fewest(2), Cases.THROWS);
        Cases.refused(Cases::full, "fewest(-1)", x -> x.fewest(-1), Cases.THROWS);
        for (int what : OFF) {
            Cases.due("fewest(" + what + ")", Cases.full(), x -> x.fewest(what), Cases.THROWS);
        }
    }

    // ---- Promise 31: nearest ----

    private static void nearest(String table, int n, int... rows) {
        BentPenny x = Bench.withTable(table);
        for (int e = 0; e < rows.length; e++) {
            Cases.due("nearest(" + n + ", " + e + ")", x.nearest(n, e), rows[e]);
        }
    }

    static void promise31_nearest_nOf0() {
        nearest(THIRDS, 0, 0, 1);
        nearest("end a 1 2;end b 1 2;", 0, 1, 0);
        nearest(SIXTHS, 0, 1, 0, 0, 0, 0, 0);
        nearest("end a 0 4;end b 4 4;", 0, 0, 1);
    }

    static void promise31_nearest_nOf20() {
        nearest(THIRDS, 20, 349525, 699051);
        nearest("end a 1 1;", 20, 1 << 20);
        nearest("end a 0 20;end b 20 20;", 20, 0, 1 << 20);
        nearest("end a 1 20;end b 19 20;", 20, 52429, 996147);
        nearest(SIXTHS, 20, 174763, 174763, 174763, 174763, 174762, 174762);
    }

    static void promise31_nearest_ofLikeRestsTheFirst() {
        nearest(SIXTHS, 1, 1, 1, 0, 0, 0, 0);
        nearest(SIXTHS, 2, 1, 1, 1, 1, 0, 0);
        nearest(SIXTHS, 3, 2, 2, 1, 1, 1, 1);
    }

    static void promise31_nearest_theGreatestRestsFirst() {
        // eight rows by tenths: 0, 0 and 8, 1 and 6, 5 and 6: two more rows
        nearest("end a 0 10;end b 1 10;end c 2 10;end d 7 10;", 3, 0, 1, 2, 5);
        nearest("end a 1 3;end b 2 3;", 1, 1, 1);
    }

    static void promise31_nearest_noRestIsLeft() {
        nearest("end a 1 4;end b 3 4;", 2, 1, 3);
        nearest("end a 1 4;end b 3 4;", 3, 2, 6);
    }

    static void promise31_nearest_nOfMinus1And21() {
        Cases.refused(Cases::full, "nearest(-1, 0)", x -> x.nearest(-1, 0), NONE);
        Cases.refused(Cases::full, "nearest(21, 0)", x -> x.nearest(21, 0), NONE);
        for (int n : OFF) {
            Cases.due("nearest(" + n + ", 0)", Cases.full().nearest(n, 0), NONE);
        }
    }

    static void promise31_nearest_noSuchEnd() {
        Cases.refused(Cases::full, "nearest(1, 2)", x -> x.nearest(1, 2), NONE);
        Cases.refused(Cases::full, "nearest(1, -1)", x -> x.nearest(1, -1), NONE);
        Cases.due("a seventh", Bench.withTable(SIXTHS).nearest(1, 6), NONE);
        for (int e : OFF) {
            Cases.due("nearest(1, " + e + ")", Cases.full().nearest(1, e), NONE);
        }
    }

    static void promise31_nearest_noShares() {
        Cases.refused(Cases::noShares, "nearest(1, 0)", x -> x.nearest(1, 0), NONE);
        Cases.refused(Cases::fresh, "nearest(0, 0)", x -> x.nearest(0, 0), NONE);
        for (String table : NO_SHARES) {
            Cases.due("nearest of " + table, Bench.withTable(table).nearest(1, 0), NONE);
        }
    }

    // ---- Promise 32: off ----

    private static void off(String table, int n, long above, long below) {
        Cases.fraction("OFF of " + table + " by " + n, Bench.withTable(table), (x, what) -> x.off(n, what), above, below);
    }

    static void promise32_off_nOf0() {
        off(THIRDS, 0, 1, 3);
        off("end a 1 2;end b 1 2;", 0, 1, 2);
        off(SIXTHS, 0, 5, 6);
        off("end a 1 20;end b 19 20;", 0, 1, 20);
    }

    static void promise32_off_nOf20() {
        off(THIRDS, 20, 1, 3L << 20);
        off("end a 1 20;end b 19 20;", 20, 1, 5L << 20);
        off(SIXTHS, 20, 1, 3L << 18);
    }

    static void promise32_off_nothing() {
        off("end a 1 2;end b 1 2;", 1, 0, 1);
        off("end a 7 7;", 0, 0, 1);
        off("end a 1 16;end b 15 16;", 4, 0, 1);
        off("end a 1 16;end b 15 16;", 3, 1, 16);
    }

    static void promise32_off_nOfMinus1And21() {
        Cases.refused(Cases::full, "off(-1, 0)", x -> x.off(-1, 0), Cases.THROWS);
        Cases.refused(Cases::full, "off(21, 0)", x -> x.off(21, 0), Cases.THROWS);
        for (int n : OFF) {
            Cases.due("off(" + n + ", 0)", Cases.full(), x -> x.off(n, 0), Cases.THROWS);
        }
    }

    static void promise32_off_noSuchWhat() {
        Cases.refused(Cases::full, "off(1, 2)", x -> x.off(1, 2), Cases.THROWS);
        Cases.refused(Cases::full, "off(1, -1)", x -> x.off(1, -1), Cases.THROWS);
        for (int what : OFF) {
            Cases.due("off(1, " + what + ")", Cases.full(), x -> x.off(1, what), Cases.THROWS);
        }
    }

    static void promise32_off_noShares() {
        Cases.refused(Cases::noShares, "off(1, 0)", x -> x.off(1, 0), Cases.THROWS);
        Cases.refused(Cases::fresh, "off(0, 0)", x -> x.off(0, 0), Cases.THROWS);
        for (String table : NO_SHARES) {
            Cases.due("off of " + table, Bench.withTable(table), x -> x.off(1, 0), Cases.THROWS);
        }
    }

    // ---- Promise 33: mixed ----

    private static void mixed(String table, int set, int rest, long above, long below) {
        Cases.fraction("MIXED " + set + ", " + rest + " of " + table, Bench.withTable(table),
                (x, what) -> x.mixed(set, rest, what), above, below);
    }

    private static final String THREE_WHEELS = "wheel u 1 1 1 1 1 1;wheel v 1 1 1 1 1 4;wheel w 4 1 1 1 1 1;";

    static void promise33_mixed_oneThing() {
        mixed("coin a 1 3;coin b 1 2;coin c 0 9;", 1, 0, 1, 3);
        mixed("coin a 1 3;coin b 1 2;coin c 0 9;", 2, 0, 1, 2);
        mixed("coin a 1 3;coin b 1 2;coin c 0 9;", 4, 0, 0, 1);
        mixed("coin a 1 3;coin b 1 2;coin c 0 9;", 4, 1, 1, 1);
    }

    static void promise33_mixed_allThree() {
        mixed("coin a 1 3;wheel b 1 3;coin c 0 9;", 7, 0, 5, 12);
        mixed("coin a 1 3;wheel b 1 3;coin c 0 9;", 7, 1, 7, 12);
        mixed(THREE_WHEELS, 7, 0, 1, 6);
        mixed(THREE_WHEELS, 7, 5, 1, 6);
    }

    static void promise33_mixed_restsOfSixSides() {
        // rest 5 of v and w by 5 and 0: 16, by five others: 1 each; rest 0 by 0 and 0 and by 5 and 1: 4 each, by four: 1
        mixed(THREE_WHEELS, 6, 5, 7, 27);
        mixed(THREE_WHEELS, 6, 0, 4, 27);
    }

    static void promise33_mixed_restBelow0AndOfAllSides() {
        Cases.refused(Cases::full, "mixed(2, 2, 0)", x -> x.mixed(2, 2, 0), Cases.THROWS);
        Cases.refused(Cases::full, "mixed(2, -1, 0)", x -> x.mixed(2, -1, 0), Cases.THROWS);
        Cases.refused(Cases::full, "mixed(4, 3, 0)", x -> x.mixed(4, 3, 0), Cases.THROWS);
        Cases.due("rest 2 of three SIDES", Cases.full(), x -> x.mixed(4, 2, 0), 1);
        Cases.due("rest 6 of six", Bench.withTable(THREE_WHEELS), x -> x.mixed(1, 6, 0), Cases.THROWS);
        for (int rest : OFF) {
            Cases.due("rest " + rest, Cases.full(), x -> x.mixed(2, rest, 0), Cases.THROWS);
        }
    }

    static void promise33_mixed_noThings() {
        Cases.refused(Cases::full, "mixed(0, 0, 0)", x -> x.mixed(0, 0, 0), Cases.THROWS);
        Cases.refused(Cases::fresh, "mixed(0, 0, 0)", x -> x.mixed(0, 0, 0), Cases.THROWS);
    }

    static void promise33_mixed_bitsOfNoThing() {
        Cases.refused(Cases::full, "mixed(8, 0, 0)", x -> x.mixed(8, 0, 0), Cases.THROWS);
        Cases.refused(Cases::full, "mixed(10, 0, 0)", x -> x.mixed(10, 0, 0), Cases.THROWS);
        Cases.refused(Cases::full, "mixed(-1, 0, 0)", x -> x.mixed(-1, 0, 0), Cases.THROWS);
        Cases.due("THING 1 of one", Bench.withTable("coin q 1 2;"), x -> x.mixed(2, 0, 0), Cases.THROWS);
        Cases.due("THING 1 of one beside it", Bench.withTable("coin q 1 2;"), x -> x.mixed(3, 0, 0), Cases.THROWS);
        Cases.due("THING 0 of none", new BentPenny(), x -> x.mixed(1, 0, 0), Cases.THROWS);
        for (int set : OFF) {
            Cases.due("set " + set, Cases.full(), x -> x.mixed(set, 0, 0), Cases.THROWS);
            Cases.due("set " + (set | 2), Cases.full(), x -> x.mixed(set | 2, 0, 0), Cases.THROWS);
        }
    }

    static void promise33_mixed_oneOpen() {
        Cases.refused(Cases::full, "mixed(1, 0, 0)", x -> x.mixed(1, 0, 0), Cases.THROWS);
        Cases.refused(Cases::full, "mixed(3, 0, 0)", x -> x.mixed(3, 0, 0), Cases.THROWS);
        Cases.due("the last", Bench.withTable("coin q 1 2;coin r 1 2;coin p open;"), x -> x.mixed(7, 0, 0), Cases.THROWS);
        Cases.due("not among them", Bench.withTable("coin q 1 2;coin p open;coin r 1 2;"), x -> x.mixed(5, 0, 0), 1);
    }

    static void promise33_mixed_sidesUnlike() {
        Cases.refused(Cases::full, "mixed(6, 0, 0)", x -> x.mixed(6, 0, 0), Cases.THROWS);
        String table = "coin q 1 2;wheel v 1 1;wheel w 1 1 1;";
        Cases.due("the last", Bench.withTable(table), x -> x.mixed(7, 0, 0), Cases.THROWS);
        Cases.due("a coin and a wheel of two", Bench.withTable(table), x -> x.mixed(3, 0, 0), 1);
        Cases.due("the first", Bench.withTable("wheel u 1 1 1;coin q 1 2;wheel v 1 1;"),
                x -> x.mixed(7, 0, 0), Cases.THROWS);
    }

    static void promise33_mixed_noSuchWhat() {
        Cases.refused(Cases::full, "mixed(2, 0, 2)", x -> x.mixed(2, 0, 2), Cases.THROWS);
        Cases.refused(Cases::full, "mixed(2, 0, -1)", x -> x.mixed(2, 0, -1), Cases.THROWS);
        for (int what : OFF) {
            Cases.due("what " + what, Cases.full(), x -> x.mixed(2, 0, what), Cases.THROWS);
        }
    }

    // ---- Promise 34: luck ----

    private static void luck(int n, int k, long above, long below) {
        Cases.fraction("LUCK of " + k + " in " + n, new BentPenny(), (x, what) -> x.luck(n, k, what), above, below);
    }

    static void promise34_luck_nOf1() {
        luck(1, 0, 1, 1);
        luck(1, 1, 1, 1);
    }

    static void promise34_luck_nOf60() {
        luck(60, 0, 1, 1L << 59);
        luck(60, 60, 1, 1L << 59);
        luck(60, 1, 61, 1L << 59);
        luck(60, 59, 61, 1L << 59);
        luck(60, 30, 1, 1);
        luck(59, 0, 1, 1L << 58);
    }

    static void promise34_luck_allButHalfOf60() {
        // all rows but the 118264581564861424 with 30 heads
        long rows = (1L << 60) - 118264581564861424L;
        luck(60, 29, rows / 16, 1L << 56);
        luck(60, 31, rows / 16, 1L << 56);
    }

    static void promise34_luck_asFarCountsOnBothSides() {
        luck(2, 0, 1, 2);
        luck(2, 1, 1, 1);
        luck(3, 1, 1, 1);
        luck(3, 2, 1, 1);
        luck(3, 3, 1, 4);
        luck(4, 1, 5, 8);
        luck(4, 3, 5, 8);
    }

    static void promise34_luck_nOf0And61() {
        Cases.refused(Cases::full, "luck(0, 0, 0)", x -> x.luck(0, 0, 0), Cases.THROWS);
        Cases.refused(Cases::full, "luck(61, 1, 0)", x -> x.luck(61, 1, 0), Cases.THROWS);
        Cases.due("n -1", new BentPenny(), x -> x.luck(-1, 0, 0), Cases.THROWS);
        for (int n : OFF) {
            Cases.due("n " + n, new BentPenny(), x -> x.luck(n, 1, 0), Cases.THROWS);
        }
    }

    static void promise34_luck_kBelow0AndAboveN() {
        Cases.refused(Cases::full, "luck(5, -1, 0)", x -> x.luck(5, -1, 0), Cases.THROWS);
        Cases.refused(Cases::full, "luck(5, 6, 0)", x -> x.luck(5, 6, 0), Cases.THROWS);
        Cases.due("61 of 60", new BentPenny(), x -> x.luck(60, 61, 0), Cases.THROWS);
        for (int k : OFF) {
            Cases.due("k " + k, new BentPenny(), x -> x.luck(5, k, 0), Cases.THROWS);
        }
    }

    static void promise34_luck_noSuchWhat() {
        Cases.refused(Cases::full, "luck(5, 5, 2)", x -> x.luck(5, 5, 2), Cases.THROWS);
        Cases.refused(Cases::full, "luck(5, 5, -1)", x -> x.luck(5, 5, -1), Cases.THROWS);
        for (int what : OFF) {
            Cases.due("what " + what, new BentPenny(), x -> x.luck(5, 5, what), Cases.THROWS);
        }
    }

    // ---- Promises 35 and 36: runs, seldom ----

    private static void runs(String row, int runs, long above, long below) {
        for (BentPenny x : readers("")) {
            Cases.due("runs() of " + row, Bench.tape(x, row).runs(), runs);
            Cases.due("the tape", x.count(4), 0);
            Cases.fraction("how seldom " + row + " is", x, (o, what) -> o.seldom(what), above, below);
        }
    }

    static void promise35_runs_ofOneThrow() {
        runs("h", 1, 1, 1);
        runs("t", 1, 1, 1);
    }

    static void promise35_runs_ofTwoThrows() {
        runs("hh", 1, 1, 1);
        runs("ht", 2, 1, 1);
        runs("th", 2, 1, 1);
    }

    static void promise35_runs_of60Throws() {
        runs(times("h", 60), 1, 1, 1);
        runs(times("ht", 30), 60, 1, 1);
        runs(times("h", 30) + times("t", 30), 2, 1, 59132290782430712L);
        runs(times("h", 59) + "t", 2, 1, 30);
    }

    static void promise35_runs_of61ThrowsAndOfNone() {
        Cases.refusedTape(Cases::full, times("h", 61), "runs()", x -> x.runs(), NONE);
        Cases.refusedTape(Cases::full, "", "runs()", x -> x.runs(), NONE);
    }

    static void promise35_runs_notAsTold() {
        notAsTold(1, 60, "runs()", x -> x.runs(), NONE);
    }

    static void promise36_seldom_asManyRunsOrFewer() {
        // of three rows with one t two have two RUNS, one has three
        runs("hht", 2, 2, 3);
        runs("hth", 3, 1, 1);
        // of six rows: two with 2, two with 3, two with 4
        runs("hhtt", 2, 1, 3);
        runs("htth", 3, 2, 3);
        runs("htht", 4, 1, 1);
    }

    static void promise36_seldom_aheadOfAny() {
        Cases.refused(Cases::fresh, "seldom(0)", x -> x.seldom(0), Cases.THROWS);
        BentPenny x = new BentPenny();
        x.runs();
        Bench.tape(x, "hx").runs();
        Cases.due("after NONE alone", x, o -> o.seldom(0), Cases.THROWS);
        Cases.due("after NONE alone", x, o -> o.seldom(1), Cases.THROWS);
    }

    static void promise36_seldom_ofTheLatestThatWasNotNone() {
        BentPenny x = Cases.withTape("hht");
        x.runs();
        x.runs();
        Bench.tape(x, times("h", 61)).runs();
        Cases.fraction("seldom", x, (o, what) -> o.seldom(what), 2, 3);
        Bench.tape(x, "hhtt").runs();
        Cases.fraction("seldom", x, (o, what) -> o.seldom(what), 1, 3);
    }

    static void promise36_seldom_anotherWhat() {
        Cases.refused(Cases::full, "seldom(2)", x -> x.seldom(2), Cases.THROWS);
        Cases.refused(Cases::full, "seldom(-1)", x -> x.seldom(-1), Cases.THROWS);
        for (int what : OFF) {
            Cases.due("seldom(" + what + ")", Cases.full(), x -> x.seldom(what), Cases.THROWS);
        }
    }
}
