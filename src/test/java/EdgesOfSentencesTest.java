/** The cases at the edges of promises 45 to 49: SENTENCES, images, count. */
final class EdgesOfSentencesTest {
    private static final int NONE = BentPenny.NONE;
    private static final int[] OFF = {Cases.LEAST, Cases.LEAST + 1, -1000, -2, 1000, 1 << 30, Cases.GREATEST};
    private static final String TABLE = "coin p open;end a 1 2;end b;end c 0 1;end d;end e 20 20;end f;";
    /** a and b are LIKE and come; c and f never; d comes by two NODES; e by one. */
    private static final String WAY = "p(p(again:a):p(b:p(d:p(d:p(e:e)))))";

    public static void main(String[] args) {
        Cases.runAll(EdgesOfSentencesTest.class);
    }

    private static void said(String sentence, String ends) {
        BentPenny x = Bench.withWay(TABLE, WAY);
        Bench.tape(x, sentence).sentence();
        Cases.due(sentence + ": how many", x.said(NONE), ends.length());
        for (int k = 0; k < ends.length(); k++) {
            Cases.due(sentence + ": " + k, x.said(k), ends.charAt(k) - 'a');
        }
        Cases.due(sentence + ": none such", x.said(ends.length()), NONE);
    }

    // ---- Promise 45: sentence ----

    static void promise45_sentence_eachOneCounts() {
        Cases.ones("comes", 1);
        Cases.ones("not comes", 2);
        Cases.ones("(comes)", 2);
        Cases.ones("not(comes or like x)and shares", 5);
        Cases.ones("comes or comes and comes or comes", 4);
    }

    static void promise45_sentence_theTapeIsEmptyThen() {
        BentPenny x = Bench.withTable(Bench.TABLE);
        Bench.tape(x, "comes").sentence();
        Cases.due("bytes", x.count(4), 0);
        Bench.tape(x, "comes comes").sentence();
        Cases.due("bytes after a FAULT", x.count(4), 0);
    }

    static void promise45_sentence_withAFaultItStays() {
        Cases.sentenceFault("place=0 or", 10, 1);
        Cases.sentenceFault("not like y or like z", 19, 3);
        Cases.sentenceFault("", 0, 1);
        Cases.sentenceFault(Cases.padded(Bench.times("shares or ", 19) + "shares", 201, ""), 200, 1);
    }

    static void promise45_sentence_withAFaultNoneStaysNone() {
        BentPenny x = Bench.withWay(Bench.TABLE, "x");
        Bench.tape(x, "comes or").sentence();
        Cases.due("said", x.said(NONE), NONE);
    }

    static void promise45_sentence_aNewOneForgetsTheOldOne() {
        BentPenny x = Bench.withWay(Bench.TABLE, "x");
        Bench.tape(x, "not not comes and like x and place<1 and knots=1").sentence();
        Bench.tape(x, "place=1").sentence();
        Cases.due("how many", x.said(NONE), 1);
        Cases.due("the first", x.said(0), 1);
    }

    static void promise45_sentence_inATableWithoutEnds() {
        BentPenny x = Bench.withWay("", "again");
        Cases.due("sentence()", Bench.tape(x, "comes").sentence(), 1);
        Cases.due("said", x.said(NONE), 0);
        Cases.due("the first", x.said(0), NONE);
        Cases.due("an END", Bench.tape(x, "like x").sentence(), -1 - 5);
    }

    static void promise45_sentence_aheadOfTheWay() {
        BentPenny x = Bench.withTable(Bench.TABLE);
        Cases.due("sentence()", Bench.tape(x, "knots=1").sentence(), 1);
        Bench.tape(x, "y").way();
        Cases.due("said", x.said(0), 1);
    }

    // ---- Promise 46: said ----

    static void promise46_said_ofAllAndOfNone() {
        said("place>0 or place=0", "abcdef");
        said("place<0", "");
    }

    static void promise46_said_theSignsOfPlace() {
        said("place<0", "");
        said("place<1", "a");
        said("place<5", "abcde");
        said("place<6", "abcdef");
        said("place=0", "a");
        said("place=5", "f");
        said("place=6", "");
        said("place>0", "bcdef");
        said("place>4", "f");
        said("place>5", "");
        said("place<999", "abcdef");
    }

    static void promise46_said_theSignsOfKnots() {
        said("knots=0", "cf");
        said("knots=1", "ab");
        said("knots=2", "de");
        said("knots=3", "");
        said("knots<1", "cf");
        said("knots<2", "abcf");
        said("knots<0", "");
        said("knots>0", "abde");
        said("knots>1", "de");
        said("knots>2", "");
    }

    static void promise46_said_knotsOf80Nodes() {
        BentPenny x = Bench.withWay("wheel w 1 1 1 1 1 1;end a;", "w(" + Bench.times("w(a:a:a:a:a:a):", 5) + "w(a:a:a:a:a:a))");
        Bench.tape(x, "knots=36").sentence();
        Cases.due("said", x.said(NONE), 1);
        Bench.tape(x, "knots>36 or knots<36").sentence();
        Cases.due("said", x.said(NONE), 0);
    }

    static void promise46_said_sharesOf0Too() {
        said("shares", "ace");
        said("not shares", "bdf");
    }

    static void promise46_said_comes() {
        said("comes", "abde");
        said("not comes", "cf");
    }

    static void promise46_said_like() {
        said("like a", "ab");
        said("like b", "ab");
        said("like c", "cf");
        said("like f", "cf");
        said("like d", "d");
        said("like e", "e");
    }

    static void promise46_said_andAheadOfOr() {
        said("shares and comes or place=3", "ade");
        said("place=3 or shares and comes", "ade");
        said("(place=3 or shares)and comes", "ade");
        said("(place=2 or shares)and comes", "ae");
        said("place=2 or shares and comes", "ace");
    }

    static void promise46_said_notIsOfOneOne() {
        said("not shares and comes", "bd");
        said("not(shares and comes)", "bcdf");
        said("not shares or comes", "abdef");
        said("not(shares or comes)", "f");
        said("not not shares", "ace");
        said(Bench.times("not ", 7) + "shares", "bdf");
    }

    static void promise46_said_twentyOnes() {
        said(Bench.times("shares or ", 18) + "place=5 or like a", "abcef");
        said(Bench.times("comes and ", 18) + "place<5 and shares", "ae");
        said("place=1 or(place=1 or(place=1 or(place=1 or(place=1 or(place=1 or(place=1 or shares))))))", "abce");
    }

    static void promise46_said_noSentence() {
        BentPenny x = Bench.withWay(Bench.TABLE, "x");
        for (int k = -2; k < 3; k++) {
            Cases.due("said(" + k + ")", x.said(k), NONE);
        }
    }

    static void promise46_said_noWay() {
        Cases.refused(Cases::noWay, "said(-1)", x -> x.said(NONE), NONE);
        Cases.refused(Cases::noWay, "said(0)", x -> x.said(0), NONE);
        Cases.refused(Cases::fresh, "said(-1)", x -> x.said(NONE), NONE);
    }

    static void promise46_said_noneSuch() {
        Cases.refused(Cases::full, "said(2)", x -> x.said(2), NONE);
        Cases.refused(Cases::full, "said(-2)", x -> x.said(-2), NONE);
        for (int k : OFF) {
            Cases.due("said(" + k + ")", Cases.full().said(k), NONE);
        }
    }

    static void promise46_said_byTheWayNow() {
        BentPenny x = Bench.withWay(Bench.TABLE, "x");
        Bench.tape(x, "comes").sentence();
        Cases.due("x", x.said(0), 0);
        Bench.tape(x, "y").way();
        Cases.due("y", x.said(0), 1);
        Bench.tape(x, "again").way();
        Cases.due("none", x.said(NONE), 0);
    }

    // ---- Promise 47: image ----

    static void promise47_image_places0And1() {
        BentPenny x = Bench.withTable("end a;");
        Cases.due("image(0)", x.image(0), true);
        Bench.tape(x, "end a;end b;").table();
        Cases.due("image(1)", x.image(1), true);
        x.table();
        x.restore(0);
        Cases.due("of place 0", x.count(1), 1);
        x.restore(1);
        Cases.due("of place 1", x.count(1), 2);
    }

    static void promise47_image_noSuchPlace() {
        Cases.refused(Cases::full, "image(2)", x -> x.image(2) ? 1 : 0, 0);
        Cases.refused(Cases::full, "image(-1)", x -> x.image(-1) ? 1 : 0, 0);
        for (int k : OFF) {
            Cases.refused(Cases::full, "image(" + k + ")", x -> x.image(k) ? 1 : 0, 0);
        }
    }

    static void promise47_image_ofNothing() {
        BentPenny x = new BentPenny();
        Cases.due("image(0)", x.image(0), true);
        Bench.tape(x, Bench.TABLE).table();
        Bench.tape(x, "x").way();
        Bench.tape(x, "comes").sentence();
        Cases.due("restore(0)", x.restore(0), true);
        int[] due = {0, 0, 0, NONE, 0};
        for (int what = 0; what < due.length; what++) {
            Cases.due("count " + what, x.count(what), due[what]);
        }
        Cases.due("deep()", x.deep(), 0);
        Bench.tape(x, "again").way();
        Cases.due("no SENTENCE", x.said(NONE), NONE);
    }

    static void promise47_image_aPlaceKeptAnew() {
        BentPenny x = Bench.withWay(Bench.TABLE, "x");
        x.image(0);
        Bench.tape(x, "q(x:y)").way();
        x.image(0);
        Bench.tape(x, "again").way();
        x.restore(0);
        Cases.due("NODES", x.count(2), 3);
    }

    static void promise47_image_changesNothing() {
        BentPenny x = Cases.full();
        Cases.due("image(0)", x.image(0), true);
        Cases.due("the tape", x.count(4), 3);
        Cases.due("NODES", x.count(2), 6);
        Cases.due("fault()", x.fault(), 2);
        Cases.due("said", x.said(NONE), 2);
        Cases.due("judged", x.judged(0), 5);
    }

    static void promise47_image_isNotWhatComesLater() {
        BentPenny x = Bench.withWay(Bench.TABLE, "q(x:y)");
        Bench.tape(x, "place=0").sentence();
        x.image(0);
        Bench.tape(x, "y").way();
        Bench.tape(x, "place=1").sentence();
        x.restore(0);
        Cases.due("the WAY", x.count(2), 3);
        Cases.due("the SENTENCE", x.said(0), 0);
        Bench.tape(x, "end n;end m;coin k 1 2;").table();
        Bench.tape(x, "k(n:m)").way();
        x.restore(0);
        Cases.due("the TABLE", x.count(0), 3);
        Cases.due("its parts", x.side(2, 2), 3);
        Cases.due("its shares", x.share(1, 0), 2);
        Cases.due("the WAY", x.nodeOf(0), 1);
        Cases.due("its NAMES", Bench.tape(x, "w(x:y:q(x:y))").way(), 6);
    }

    // ---- Promise 48: restore ----

    static void promise48_restore_nothingIsKept() {
        Cases.refused(Cases::full, "restore(0)", x -> x.restore(0) ? 1 : 0, 0);
        Cases.refused(Cases::fresh, "restore(0)", x -> x.restore(0) ? 1 : 0, 0);
        Cases.refused(Cases::fresh, "restore(1)", x -> x.restore(1) ? 1 : 0, 0);
        BentPenny x = new BentPenny();
        x.image(0);
        Cases.due("the other place", x.restore(1), false);
        x.image(2);
        Cases.due("no such place kept", x.restore(1), false);
    }

    static void promise48_restore_noSuchPlace() {
        Cases.refused(Cases::full, "restore(2)", x -> x.restore(2) ? 1 : 0, 0);
        Cases.refused(Cases::full, "restore(-1)", x -> x.restore(-1) ? 1 : 0, 0);
        for (int k : OFF) {
            Cases.refused(Cases::full, "restore(" + k + ")", x -> x.restore(k) ? 1 : 0, 0);
        }
    }

    static void promise48_restore_tableWayAndSentence() {
        BentPenny x = Cases.full();
        Cases.due("restore(1)", x.restore(1), true);
        Cases.due("THINGS", x.count(0), 1);
        Cases.due("ENDS", x.count(1), 2);
        Cases.due("NODES", x.count(2), 3);
        Cases.due("the open coin", x.count(3), NONE);
        Cases.due("deep()", x.deep(), 1);
        Cases.due("said", x.said(NONE), 1);
        Cases.due("said of", x.said(0), 1);
    }

    static void promise48_restore_theTapeStays() {
        BentPenny x = Cases.full();
        x.restore(1);
        Cases.due("bytes", x.count(4), 3);
        Cases.due("RUNS", x.runs(), 3);
    }

    static void promise48_restore_whatOtherCallsToldLastStays() {
        BentPenny x = Cases.full();
        BentPenny y = Cases.full();
        x.restore(1);
        Cases.due("fault()", x.fault(), 2);
        for (int i = 0; i < 4; i++) {
            Cases.due("judged " + i, x.judged(i), y.judged(i));
            Cases.due("bit " + i, x.bit(i), y.bit(i));
        }
        Cases.due("took()", x.took(), 2);
        Cases.due("seldom", x.seldom(0), y.seldom(0));
        Cases.due("seldom", x.seldom(1), y.seldom(1));
        Cases.due("bestMean", x.bestMean(0), y.bestMean(0));
        Cases.due("tosses()", x.tosses(), y.tosses());
        for (int i = 0; i < 18; i++) {
            Cases.due("byte " + i, x.byteAt(i), y.byteAt(i));
        }
    }

    static void promise48_restore_asOftenAsOneWants() {
        BentPenny x = Bench.withWay(Bench.TABLE, "q(x:y)");
        x.image(1);
        for (int turn = 0; turn < 3; turn++) {
            Bench.tape(x, "x").way();
            Cases.due("restore(1)", x.restore(1), true);
            Cases.due("NODES", x.count(2), 3);
        }
    }

    static void promise48_restore_withoutAWayOrASentence() {
        BentPenny x = Bench.withTable(Bench.TABLE);
        x.image(0);
        Bench.tape(x, "x").way();
        Bench.tape(x, "comes").sentence();
        x.restore(0);
        Cases.due("NODES", x.count(2), 0);
        Bench.tape(x, "x").way();
        Cases.due("said", x.said(NONE), NONE);
    }

    // ---- Promise 49: count ----

    static void promise49_count_ofNothing() {
        int[] due = {0, 0, 0, NONE, 0};
        for (int what = 0; what < due.length; what++) {
            Cases.due("count " + what, new BentPenny().count(what), due[what]);
        }
    }

    static void promise49_count_ofWhatIsFull() {
        BentPenny x = Bench.withTable("end a;end b;end c;end d;end e;end f;coin i 1 2;wheel j 1 1;coin k open;");
        Bench.tape(x, Bench.times("h", 640));
        Cases.due("THINGS", x.count(0), 3);
        Cases.due("ENDS", x.count(1), 6);
        Cases.due("the open coin", x.count(3), 2);
        Cases.due("bytes", x.count(4), 640);
    }

    static void promise49_count_theOpenCoin() {
        Cases.due("THING 0", Bench.withTable("coin p open;").count(3), 0);
        Cases.due("THING 1", Bench.withTable("wheel w 1 1;coin p open;").count(3), 1);
        Cases.due("none", Bench.withTable("coin q 0 2;wheel w 1 1;").count(3), NONE);
    }

    static void promise49_count_nodesOfTheWay() {
        Cases.due("no WAY", Bench.withTable(Bench.TABLE).count(2), 0);
        Cases.due("one", Bench.withWay(Bench.TABLE, "x").count(2), 1);
        Cases.due("six", Bench.withWay(Bench.TABLE, Cases.CLOSED_WAY).count(2), 6);
    }

    static void promise49_count_anotherWhat() {
        Cases.refused(Cases::full, "count(5)", x -> x.count(5), NONE);
        Cases.refused(Cases::full, "count(-1)", x -> x.count(-1), NONE);
        for (int what : OFF) {
            Cases.due("count " + what, Cases.full().count(what), NONE);
        }
    }
}
