/** Promises 1 to 13, 40, 41, 45 to 49: the tape, the texts and their FAULTS, images. */
final class TextsTest {
    private static final int NONE = BentPenny.NONE;
    private static final Bench t = new Bench();

    public static void main(String[] args) {
        promise1();
        promise2();
        promise3();
        promise4();
        promise4Faults();
        promise4Most();
        promise5();
        promises6To8();
        promise9();
        promise9Faults();
        promises10To13();
        promises40And41();
        promise45();
        promise45Faults();
        promise46();
        promises47And48();
        promise49();
        t.close("TextsTest");
    }

    private static BentPenny fed(String text) {
        return Bench.tape(new BentPenny(), text);
    }

    private static void tableFault(String text, int place, int kind) {
        BentPenny x = fed(text);
        t.due("table() of " + text, x.table(), -1 - place);
        t.due("fault() of " + text, x.fault(), kind);
        t.due("tape after " + text, x.count(4), 0);
    }

    private static void wayFault(String text, int place, int kind) {
        BentPenny x = Bench.withTable(Bench.TABLE);
        t.due("way() of " + text, Bench.tape(x, text).way(), -1 - place);
        t.due("fault() of " + text, x.fault(), kind);
        t.due("tape after " + text, x.count(4), 0);
    }

    private static void sentenceFault(String text, int place, int kind) {
        BentPenny x = Bench.withTable(Bench.TABLE);
        t.due("sentence() of " + text, Bench.tape(x, text).sentence(), -1 - place);
        t.due("fault() of " + text, x.fault(), kind);
        t.due("tape after " + text, x.count(4), 0);
    }

    private static void promise1() {
        t.due("NONE", BentPenny.NONE, -1);
        BentPenny x = new BentPenny();
        t.due("no THINGS", x.count(0), 0);
        t.due("no ENDS", x.count(1), 0);
        t.due("no WAY", x.count(2), 0);
        t.due("no open coin", x.count(3), NONE);
        t.due("an empty tape", x.count(4), 0);
        t.due("an empty TABLE reads", x.table(), 0);
    }

    private static void promise2() {
        BentPenny x = new BentPenny();
        t.due("feed", x.feed(0x656e6420, 0x613b0a20, 0x20202020, 0x20202020, 0x20202020), 20);
        t.due("what was fed, highest first", x.table(), 1);
        for (int i = 1; i <= 32; i++) {
            t.due("feed " + i, x.feed(-1, 0, 0, 0, 0), 20 * i);
        }
        t.due("a feed too much", x.feed(0, 0, 0, 0, 0), NONE);
        t.due("none came", x.count(4), 640);
        x.end(621);
        t.due("a feed that does not fit whole", x.feed(0, 0, 0, 0, 0), NONE);
        x.end(620);
        t.due("a feed that fits", x.feed(0, 0, 0, 0, 0), 640);
    }

    private static void promise3() {
        BentPenny x = fed("end a;end b;");
        t.no("below 0", x.end(-1));
        t.no("more than there are", x.end(13));
        t.no("far more", x.end(Integer.MAX_VALUE));
        t.due("it stays", x.count(4), 12);
        t.yes("all of it", x.end(12));
        t.yes("its first bytes", x.end(6));
        t.due("cut", x.count(4), 6);
        t.due("the first ones stay", x.table(), 1);
        t.yes("nothing of nothing", x.end(0));
        t.no("one of nothing", x.end(1));
    }

    private static void promise4() {
        BentPenny x = fed(Bench.TABLE);
        t.due("LINES", x.table(), 5);
        t.due("the tape is empty", x.count(4), 0);
        t.due("blanks", fed(" \ncoin\np  2\n4 ; wheel w 4 5;end\na;\n").table(), 3);
        t.due("no blanks at signs", fed("end a;end b 1 20;end c 20 20;end d 0 1;").table(), 4);
        t.due("six ENDS, three THINGS", fed("end a;end b;end c;end d;end e;end f;"
                + "coin g 0 2;coin h 9 9;wheel i 1 1 1 1 1 4;").table(), 9);
        t.due("a NAME of six letters", fed("end sixsix;").table(), 1);
        t.due("digits with noughts ahead", fed("coin a 001 002;").table(), 1);
        x = Bench.withWay(Bench.TABLE, "x");
        Bench.tape(x, "comes").sentence();
        Bench.tape(x, "end").table();
        t.due("it stays with a FAULT", x.count(0), 3);
        t.due("the WAY stays with a FAULT", x.count(2), 1);
        t.due("the SENTENCE stays with a FAULT", x.said(NONE), 1);
        Bench.tape(x, Bench.TABLE).table();
        t.due("a new TABLE: no WAY", x.count(2), 0);
        Bench.tape(x, "x").way();
        t.due("a new TABLE: no SENTENCE", x.said(NONE), NONE);
    }

    private static void promise4Faults() {
        tableFault("penny", 0, 1);
        tableFault("end a", 5, 1);
        tableFault("end a ", 6, 1);
        tableFault("end", 3, 1);
        tableFault("end a;;", 6, 1);
        tableFault("end a.", 5, 1);
        tableFault("end A;", 4, 1);
        tableFault("end\ta;", 3, 1);
        tableFault("end sevenly;", 4, 1);
        tableFault("end a1;", 4, 1);
        tableFault("end 1;", 4, 1);
        tableFault("end a 1;", 7, 1);
        tableFault("end a 1 1 1;", 10, 1);
        tableFault("end a 0001 1;", 6, 1);
        tableFault("coin a;", 6, 1);
        tableFault("coin a openly 1;", 7, 1);
        tableFault("coin a open 1;", 12, 1);
        tableFault("coin a 1 b;", 9, 1);
        tableFault("wheel w 1;", 9, 1);
        tableFault("wheel w;", 7, 1);
        tableFault("wheel w 1 1 x;", 12, 1);
        tableFault("end \351;", 4, 1);
        for (String told : ("coin open wheel end again so or and not like comes shares place knots").split(" ")) {
            tableFault("end " + told + ";", 4, 1);
            tableFault("coin " + told + " 1 2;", 5, 1);
        }
        tableFault("coin a 3 2;", 9, 2);
        tableFault("coin a 1 1;", 9, 2);
        tableFault("coin a 1 10;", 9, 2);
        tableFault("coin a 10 2;", 7, 2);
        tableFault("end a 21 21;", 6, 2);
        tableFault("end a 5 4;", 8, 2);
        tableFault("end a 0 0;", 8, 2);
        tableFault("end a 1 21;", 8, 2);
        tableFault("wheel w 0 1;", 8, 2);
        tableFault("wheel w 5 5;", 10, 2);
        tableFault("wheel w 10 1;", 8, 2);
        tableFault("wheel w 1 1 1 1 1 1 4;", 20, 2);
        tableFault("coin a open;coin b open;", 19, 3);
        tableFault("end a;end a;", 10, 3);
        tableFault("coin a 1 2;end a;", 15, 3);
        tableFault("end a;wheel a 1 1;", 12, 3);
        tableFault("coin a 1 2;coin b 1 2;wheel c 1 1;coin d 1 2;", 34, 4);
        tableFault("coin a 1 2;coin b 1 2;coin c 1 2;wheel", 33, 4);
        tableFault("end a;end b;end c;end d;end e;end f;end g;", 36, 4);
        tableFault("wheel w 1 1 1 1 1 1 1;", 20, 4);
    }

    private static void promise4Most() {
        t.due("500 bytes", fed("end a;" + Bench.times(" ", 494)).table(), 1);
        tableFault("end a;" + Bench.times(" ", 495), 500, 1);
        tableFault("end a" + Bench.times(" ", 490), 495, 1);
        tableFault("end a" + Bench.times(" ", 635), 500, 1);
        tableFault(Bench.times(" ", 500) + "end a;", 500, 1);
        tableFault(Bench.times(" ", 499) + "end a;", 500, 1);
        tableFault(Bench.times(" ", 499) + "endless;", 499, 1);
        tableFault("end " + Bench.times(" ", 493) + "and;", 497, 1);
        tableFault("end a " + Bench.times(" ", 492) + "1 2;", 500, 1);
        tableFault("end a " + Bench.times(" ", 493) + "21 2;", 499, 2);
        tableFault("end a;" + Bench.times(" ", 490) + "%" + Bench.times(" ", 40), 496, 1);
        wayFault("x" + Bench.times(" ", 600), 600, 1);
        t.due("600 bytes", Bench.withWay(Bench.TABLE, "x" + Bench.times(" ", 599)).count(2), 1);
        sentenceFault("comes" + Bench.times(" ", 196), 200, 1);
        BentPenny x = Bench.withTable(Bench.TABLE);
        t.due("200 bytes", Bench.tape(x, "comes" + Bench.times(" ", 195)).sentence(), 1);
    }

    private static void promise5() {
        BentPenny x = new BentPenny();
        t.due("ahead of any", x.fault(), 0);
        Bench.tape(x, "end a 2 1;").table();
        t.due("of table()", x.fault(), 2);
        Bench.tape(x, "z").way();
        t.due("of way()", x.fault(), 3);
        Bench.tape(x, "7").evening();
        t.due("evening() that is -1000 leaves it", x.fault(), 3);
        Bench.tape(x, "like").sentence();
        t.due("of sentence()", x.fault(), 1);
        Bench.tape(x, "again").way();
        t.due("without one", x.fault(), 0);
        Bench.tape(x, "z 1;").evening();
        t.due("of evening()", x.fault(), 3);
        Bench.tape(x, "hh").pairs();
        t.due("others leave it", x.fault(), 3);
    }

    private static void promises6To8() {
        BentPenny x = Bench.withTable(Bench.TABLE);
        t.due("SIDES of a coin", x.thing(0, 0), 2);
        t.due("SIDES of a wheel", x.thing(2, 0), 3);
        t.due("parts of an open coin", x.thing(0, 1), 0);
        t.due("parts of a coin", x.thing(1, 1), 3);
        t.due("parts of a wheel", x.thing(2, 1), 6);
        t.due("open", x.thing(0, 2), 1);
        t.due("not open", x.thing(1, 2), 0);
        t.none("THING 3", () -> x.thing(3, 0));
        t.none("THING -1", () -> x.thing(-1, 0));
        t.none("thing what 3", () -> x.thing(0, 3));
        t.none("thing what -1", () -> x.thing(0, -1));
        t.due("head", x.side(1, 0), 1);
        t.due("tail", x.side(1, 1), 2);
        t.due("SIDE 2 of a coin", x.side(1, 2), NONE);
        t.due("head of the open coin", x.side(0, 0), 0);
        t.due("tail of the open coin", x.side(0, 1), 0);
        t.due("SIDE 2 of the open coin", x.side(0, 2), NONE);
        t.due("SIDE 2 of a wheel", x.side(2, 2), 3);
        t.due("SIDE 3 of a wheel", x.side(2, 3), NONE);
        t.due("SIDE -1", x.side(2, -1), NONE);
        t.due("SIDE of THING 3", x.side(3, 0), NONE);
        t.due("SIDE of THING -1", x.side(-1, 0), NONE);
        t.due("share K", x.share(1, 0), 2);
        t.due("share M", x.share(1, 1), 3);
        t.due("share what 2", x.share(1, 2), NONE);
        t.due("share what -1", x.share(1, -1), NONE);
        t.due("share of END 2", x.share(2, 0), NONE);
        t.due("share of END -1", x.share(-1, 0), NONE);
        t.due("no share told", Bench.withTable("end a;").share(0, 0), NONE);
        t.due("a share of 0", Bench.withTable("end a 0 7;").share(0, 0), 0);
    }

    private static void promise9() {
        BentPenny x = Bench.withTable(Bench.TABLE);
        t.due("NODES", Bench.tape(x, "p(p(again:x):p(y:again))").way(), 7);
        t.due("the tape is empty", x.count(4), 0);
        t.due("blanks", Bench.tape(x, " q\n( x :\nagain ) ").way(), 3);
        Bench.tape(x, "q(x:x").way();
        t.due("it stays with a FAULT", x.count(2), 3);
        t.due("an END alone", Bench.tape(x, "y").way(), 1);
        t.due("AGAIN alone", Bench.tape(x, "again").way(), 1);
        t.due("six within one another", Bench.tape(x, "q(x:q(x:q(x:q(x:q(x:q(x:x))))))").way(), 13);
        BentPenny y = Bench.withTable("wheel w 1 1 1 1 1 1;end x;");
        String six = "w(x:x:x:x:x:x)";
        t.due("73 NODES", Bench.tape(y, "w(w(" + Bench.times(six + ":", 5) + six + "):w(" + Bench.times(six + ":", 3)
                + "x:x:x):x:x:x:x)").way(), 73);
        t.due("in an empty TABLE", Bench.tape(new BentPenny(), "again").way(), 1);
    }

    private static void promise9Faults() {
        wayFault("", 0, 1);
        wayFault("x x", 2, 1);
        wayFault("x:", 1, 1);
        wayFault("x)", 1, 1);
        wayFault("(x)", 0, 1);
        wayFault("q", 1, 1);
        wayFault("q x", 2, 1);
        wayFault("x(x:y)", 1, 1);
        wayFault("again(x:y)", 5, 1);
        wayFault("q(x:y", 5, 1);
        wayFault("q(x;y)", 3, 1);
        wayFault("q()", 2, 1);
        wayFault("q(:x)", 2, 1);
        wayFault("q(x:)", 4, 1);
        wayFault("so", 0, 1);
        wayFault("q(x:like)", 4, 1);
        wayFault("q(x:1)", 4, 1);
        wayFault("z", 0, 3);
        wayFault("q(z:x)", 2, 3);
        wayFault("q(x)", 3, 5);
        wayFault("q(x:y:x)", 5, 5);
        wayFault("w(x:y)", 5, 5);
        wayFault("w(x:y:x:y)", 7, 5);
        wayFault("q(x:q(x:q(x:q(x:q(x:q(x:q(x:", 24, 4);
        wayFault("q(x:q(x:q(x:q(x:q(x:q(x:z", 24, 3);
        String three = "w(x:x:x)";
        String nine = "w(" + three + ":" + three + ":" + three + ")";
        String forty = "w(" + nine + ":" + nine + ":" + nine + ")";
        BentPenny x = Bench.withTable("wheel w 1 1 1;coin q 1 2;end x;");
        t.due("40 NODES", Bench.tape(x, forty).way(), 40);
        t.due("an 81st NODE", Bench.tape(x, "q(" + forty + ":" + forty + ")").way(), -1 - (2 * forty.length() - 1));
        t.due("its FAULT", x.fault(), 4);
        BentPenny y = Bench.withTable("wheel w 1 1 1 1;wheel v 1 1 1;coin q 1 2;end x;");
        String five = "w(x:x:x:x)";
        String twenty = "w(" + five + ":" + five + ":" + five + ":" + five + ")";
        String ahead = "w(" + twenty + ":" + twenty + ":" + twenty + ":w(" + five + ":" + five + ":";
        t.due("77 NODES", Bench.tape(y, ahead + "x:x))").way(), 77);
        t.due("80 NODES", Bench.tape(y, ahead + "v(x:x:x):x))").way(), 80);
        t.due("81 NODES", Bench.tape(y, ahead + "v(x:x:x):q(x:x)))").way(), -1 - (ahead + "v(x:x:x):q(").length());
        t.due("80 NODES, cut short", Bench.tape(y, ahead + "v(x:x:x):v(").way(), -1 - (ahead + "v(x:x:x):v(").length());
        t.due("81 NODES, the last unknown", Bench.tape(y, ahead + "v(x:x:x):q(x:z").way(),
                -1 - (ahead + "v(x:x:x):q(").length());
        t.due("its FAULT", y.fault(), 4);
        t.due("an 81st NODE unknown", Bench.tape(y, ahead + "v(x:x:x):q(z").way(),
                -1 - (ahead + "v(x:x:x):q(").length());
        t.due("its FAULT, the least", y.fault(), 3);
    }

    private static void promises10To13() {
        BentPenny x = Bench.withWay(Bench.TABLE, "p(w(again:x:q(x:y)):y)");
        int[] sorts = {2, 2, 1, 0, 2, 0, 0, 0};
        int[] whiches = {0, 2, NONE, 0, 1, 0, 1, 1};
        for (int k = 0; k < sorts.length; k++) {
            t.due("node " + k, x.node(k), sorts[k]);
            t.due("nodeOf " + k, x.nodeOf(k), whiches[k]);
        }
        t.due("node 8", x.node(8), NONE);
        t.due("node -1", x.node(-1), NONE);
        t.due("nodeOf 8", x.nodeOf(8), NONE);
        t.due("nodeOf -1", x.nodeOf(-1), NONE);
        t.due("next(0, 0)", x.next(0, 0), 1);
        t.due("next(0, 1)", x.next(0, 1), 7);
        t.due("next(0, 2)", x.next(0, 2), NONE);
        t.due("next(1, 0)", x.next(1, 0), 2);
        t.due("next(1, 2)", x.next(1, 2), 4);
        t.due("next(1, 3)", x.next(1, 3), NONE);
        t.due("next(1, -1)", x.next(1, -1), NONE);
        t.due("next of AGAIN", x.next(2, 0), NONE);
        t.due("next of an END", x.next(3, 0), NONE);
        t.due("next(4, 1)", x.next(4, 1), 6);
        t.due("next(8, 0)", x.next(8, 0), NONE);
        t.due("next(-1, 0)", x.next(-1, 0), NONE);
        t.due("deep()", x.deep(), 3);
        Bench.tape(x, "x").way();
        t.due("deep() of an END", x.deep(), 0);
        t.due("nodes of the WAY ahead are gone", x.node(1), NONE);
        BentPenny y = new BentPenny();
        t.due("deep() without a WAY", y.deep(), 0);
        t.due("node without a WAY", y.node(0), NONE);
        t.due("nodeOf without a WAY", y.nodeOf(0), NONE);
        t.due("next without a WAY", y.next(0, 0), NONE);
    }

    private static void promises40And41() {
        BentPenny x = Bench.withTable(Bench.TABLE);
        t.due("write() without a WAY", x.write(), NONE);
        t.due("byteAt ahead of any", x.byteAt(0), NONE);
        for (String way : new String[] {"x", "again", "q(x:y)", "p(w(again:x:q(x:y)):y)",
                "w(w(x:y:w(x:x:x)):q(q(x:x):q(y:q(x:again))):y)"}) {
            Bench.tape(x, way.replace(":", " : ")).way();
            t.text("write() of " + way, x, x.write(), way);
        }
        t.due("byteAt(-1)", x.byteAt(-1), NONE);
        BentPenny y = Bench.withWay("wheel spins 1 1;end sixsix;end a;", "spins(sixsix:spins(a:sixsix))");
        t.text("longer NAMES", y, y.write(), "spins(sixsix:spins(a:sixsix))");
        Bench.tape(y, "end b;").table();
        t.due("write() without a WAY again", y.write(), NONE);
        t.due("the text made last stays", y.byteAt(0), 's');
    }

    private static void promise45() {
        BentPenny x = Bench.withTable(Bench.TABLE);
        t.due("one", Bench.tape(x, "comes").sentence(), 1);
        t.due("the tape is empty", x.count(4), 0);
        t.due("each not, bracket and other one", Bench.tape(x, "not(comes or like x)and shares").sentence(), 5);
        t.due("signs", Bench.tape(x, "place<1 or knots = 2 and place>999").sentence(), 3);
        t.due("twenty", Bench.tape(x, Bench.times("comes or ", 19) + "comes").sentence(), 20);
        t.due("eight within", Bench.tape(x, "not((not((not comes))))").sentence(), 8);
        t.due("nine within", Bench.tape(x, "not((not((not(comes)))))").sentence(), -15);
        t.due("seven nots", Bench.tape(x, Bench.times("not ", 7) + "comes").sentence(), 8);
        Bench.tape(x, "x").way();
        t.due("said by it", x.said(NONE), 1);
        Bench.tape(x, "comes or").sentence();
        t.due("it stays with a FAULT", x.said(NONE), 1);
    }

    private static void promise45Faults() {
        sentenceFault("", 0, 1);
        sentenceFault("place", 5, 1);
        sentenceFault("place 1", 6, 1);
        sentenceFault("place=", 6, 1);
        sentenceFault("place=x", 6, 1);
        sentenceFault("place=1000", 6, 1);
        sentenceFault("like", 4, 1);
        sentenceFault("like so", 5, 1);
        sentenceFault("like 1", 5, 1);
        sentenceFault("like z", 5, 3);
        sentenceFault("like q", 5, 3);
        sentenceFault("comes comes", 6, 1);
        sentenceFault("comes or", 8, 1);
        sentenceFault("comes and or", 10, 1);
        sentenceFault("(comes", 6, 1);
        sentenceFault("comes)", 5, 1);
        sentenceFault("()", 1, 1);
        sentenceFault("not", 3, 1);
        sentenceFault("x", 0, 1);
        sentenceFault("again", 0, 1);
        sentenceFault("comes;", 5, 1);
        sentenceFault(Bench.times("comes or ", 20) + "comes", 180, 4);
        sentenceFault(Bench.times("comes or ", 20) + "or", 180, 1);
        sentenceFault(Bench.times("not ", 8) + "comes", 32, 4);
        sentenceFault(Bench.times("(", 8) + "comes", 8, 4);
        sentenceFault(Bench.times("(", 8) + "x", 8, 1);
        sentenceFault(Bench.times("(", 9), 8, 4);
    }

    private static void said(String sentence, String ends) {
        BentPenny x = Bench.withWay("coin p open;end a 1 2;end b;end c 0 1;end d;",
                "p(p(again:a):p(b:p(d:d)))");
        t.due("no SENTENCE", x.said(NONE), NONE);
        Bench.tape(x, sentence).sentence();
        t.due(sentence + ": how many", x.said(NONE), ends.length());
        for (int k = 0; k < ends.length(); k++) {
            t.due(sentence + ": " + k, x.said(k), ends.charAt(k) - 'a');
        }
        t.due(sentence + ": none such", x.said(ends.length()), NONE);
        t.due(sentence + ": k -2", x.said(-2), NONE);
        t.due(sentence + ": far off", x.said(Integer.MAX_VALUE), NONE);
    }

    private static void promise46() {
        said("comes", "abd");
        said("not comes", "c");
        said("shares", "ac");
        said("like b", "ab");
        said("like c", "c");
        said("like d", "d");
        said("place<2", "ab");
        said("place=2", "c");
        said("place>2", "d");
        said("knots=1", "ab");
        said("knots=0", "c");
        said("knots>1", "d");
        said("knots<1 or knots>1", "cd");
        said("shares and comes or place=3", "ad");
        said("place=3 or shares and comes", "ad");
        said("(place=3 or shares) and comes", "ad");
        said("(place=2 or shares) and comes", "a");
        said("place=2 or shares and comes", "ac");
        said("not shares and comes", "bd");
        said("not (shares and comes)", "bcd");
        said("not not shares", "ac");
        said("place>999", "");
        BentPenny x = Bench.withTable(Bench.TABLE);
        Bench.tape(x, "comes").sentence();
        t.due("no WAY", x.said(NONE), NONE);
        Bench.tape(x, "y").way();
        t.due("by the WAY now", x.said(0), 1);
        Bench.tape(x, "x").way();
        t.due("by the WAY now", x.said(0), 0);
    }

    private static void promises47And48() {
        BentPenny x = Bench.withWay(Bench.TABLE, "q(x:y)");
        t.no("nothing kept", x.restore(0));
        t.no("no such place", x.image(2));
        t.no("no such place", x.image(-1));
        Bench.tape(x, "like x").sentence();
        t.yes("kept in 0", x.image(0));
        t.no("nothing kept in 1", x.restore(1));
        Bench.tape(x, "h").runs();
        x.write();
        Bench.tape(x, "end n;").table();
        t.yes("kept in 1", x.image(1));
        Bench.tape(x, "zz").way();
        Bench.tape(x, "tape");
        t.yes("restored", x.restore(0));
        t.due("the TABLE", x.count(0), 3);
        t.due("its parts", x.side(2, 2), 3);
        t.due("its shares", x.share(1, 0), 2);
        t.due("its open coin", x.count(3), 0);
        t.due("the WAY", x.count(2), 3);
        t.due("its NODES", x.nodeOf(2), 1);
        t.due("its depth", x.deep(), 1);
        t.due("the SENTENCE", x.said(0), 0);
        t.due("the tape stays", x.count(4), 4);
        t.due("the FAULT stays", x.fault(), 3);
        t.due("the text stays", x.byteAt(0), 'q');
        t.due("RUNS stay", x.seldom(0), 1);
        x.end(0);
        t.due("its NAMES", Bench.tape(x, "w(x:y:p(x:x))").way(), 6);
        t.yes("restored once more", x.restore(0));
        t.due("an image is not what came of it", x.count(2), 3);
        t.yes("the other", x.restore(1));
        t.due("its TABLE", x.count(1), 1);
        t.due("no WAY in it", x.count(2), 0);
        Bench.tape(x, "n").way();
        t.due("no SENTENCE in it", x.said(NONE), NONE);
        t.yes("kept anew", x.image(0));
        Bench.tape(x, "again").way();
        x.restore(0);
        t.due("the later image", x.nodeOf(0), 0);
        t.no("no such place", x.restore(2));
        t.no("no such place", x.restore(-1));
    }

    private static void promise49() {
        BentPenny x = Bench.withWay("end a;coin q 1 2;coin p open;end b;wheel w 1 1;", "q(a:b)");
        Bench.tape(x, "12345");
        t.due("THINGS", x.count(0), 3);
        t.due("ENDS", x.count(1), 2);
        t.due("NODES", x.count(2), 3);
        t.due("the open coin", x.count(3), 1);
        t.due("bytes", x.count(4), 5);
        t.due("count(5)", x.count(5), NONE);
        t.due("count(-1)", x.count(-1), NONE);
    }
}
