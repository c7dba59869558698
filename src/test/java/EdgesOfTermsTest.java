/** The cases at the edges of what "Terms" tells: TOKENS, the four texts, FAULTS, and what the other words mean. */
final class EdgesOfTermsTest {
    private static final int NONE = BentPenny.NONE;
    private static final String[] TOLD_WORDS = {"coin", "open", "wheel", "end", "again", "so", "or", "and", "not",
        "like", "comes", "shares", "place", "knots"};
    private static final String SIX_ENDS = "end a;end b;end c;end d;end e;end f;";
    private static final String THREE_THINGS = "coin i 1 2;wheel j 1 1;coin k open;";
    private static final String SIDES_TABLE = "wheel w 1 1 1 1 1 1;wheel v 1 1 1;coin q 1 2;end x;";

    public static void main(String[] args) {
        Cases.runAll(EdgesOfTermsTest.class);
    }

    private static boolean letter(int sign) {
        return sign >= 'a' && sign <= 'z';
    }

    private static boolean digit(int sign) {
        return sign >= '0' && sign <= '9';
    }

    private static boolean blank(int sign) {
        return sign == 32 || sign == 10;
    }

    private static void tableAnswer(String text, int answer, int fault) {
        BentPenny x = Cases.withTape(text);
        Cases.due("table() of " + text, x.table(), answer);
        Cases.due("fault() of " + text, x.fault(), fault);
    }

    private static void wayAnswer(String text, int answer, int fault) {
        BentPenny x = Bench.withTable(Bench.TABLE);
        Cases.due("way() of " + text, Bench.tape(x, text).way(), answer);
        Cases.due("fault() of " + text, x.fault(), fault);
    }

    private static void eveningAnswer(String text, int answer, int fault) {
        BentPenny x = Bench.withWay(Bench.TABLE, Cases.CLOSED_WAY);
        Cases.due("evening() of " + text, Bench.tape(x, text).evening(), answer);
        Cases.due("fault() of " + text, x.fault(), fault);
    }

    private static void sentenceAnswer(String text, int answer, int fault) {
        BentPenny x = Bench.withTable(Bench.TABLE);
        Cases.due("sentence() of " + text, Bench.tape(x, text).sentence(), answer);
        Cases.due("fault() of " + text, x.fault(), fault);
    }

    // ---- TOKENS: blanks ----

    static void terms_blanks_32And10StandBetweenTokens() {
        Cases.lines("\n end \n a \n 1 \n 2 \n ; \n", 1);
        Cases.lines("coin\nq\n1\n2\n;\nwheel\nw\n1\n1\n;", 2);
        Cases.nodes(Bench.TABLE, " q \n( \nx\n : y\n)\n ", 3);
        Cases.ones("\nnot\n(\nplace\n<\n1\n)\n", 3);
        eveningAnswer("\n q \n 1 \n ; \n so \n x \n ; \n", 1, 0);
    }

    static void terms_blanks_noneIsNeededAtSigns() {
        Cases.lines("end a;end b 1 2;coin q 1 2;", 3);
        Cases.nodes(Bench.TABLE, "q(x:q(y:x))", 5);
        Cases.ones("not(place<1 or(knots=2 and place>1))", 6);
        Cases.ones("not(place<1)or(knots=2)and(place>1)", 7);
    }

    static void terms_blanks_aTextOfBlanksAloneIsEmpty() {
        Cases.lines(" \n \n", 0);
        wayAnswer(" \n ", -1 - 3, 1);
        eveningAnswer(" \n ", NONE, 0);
        sentenceAnswer(" \n ", -1 - 3, 1);
    }

    static void terms_blanks_anyOtherByteBehindAWord() {
        for (int sign = 0; sign < 256; sign++) {
            String text = "end a" + (char) sign + ";";
            if (blank(sign) || letter(sign)) {
                tableAnswer(text, 1, 0);
            } else {
                tableAnswer(text, -1 - (digit(sign) ? 4 : sign == ';' ? 6 : 5), 1);
            }
        }
    }

    // ---- TOKENS: WORDS ----

    static void terms_word_ofOneLetterAnyOfAToZAndNoOtherByte() {
        for (int sign = 0; sign < 256; sign++) {
            String text = "end " + (char) sign + ";";
            tableAnswer(text, letter(sign) ? 1 : blank(sign) ? -6 : -5, letter(sign) ? 0 : 1);
        }
    }

    static void terms_word_ofSixLettersAnyOfAToZAndNoOtherByte() {
        for (int sign = 0; sign < 256; sign++) {
            String text = "end zzzzz" + (char) sign + ";";
            boolean fine = letter(sign) || blank(sign);
            int place = digit(sign) ? 4 : sign == ';' ? 10 : 9;
            tableAnswer(text, fine ? 1 : -1 - place, fine ? 0 : 1);
        }
    }

    static void terms_word_ofSevenLettersIsNoToken() {
        Cases.tableFault("end abcdefg;", 4, 1);
        Cases.tableFault("wheelss w 1 1;", 0, 1);
        Cases.wayFault("xxxxxxx", 0, 1);
        Cases.eveningFault("so xxxxxxx;", 3, 1);
        Cases.sentenceFault("like xxxxxxx", 5, 1);
    }

    static void terms_word_ofFarMoreLettersIsNoToken() {
        Cases.tableFault("end " + Bench.times("a", 400) + ";", 4, 1);
        Cases.wayFault(Bench.times("x", 600), 0, 1);
        Cases.sentenceFault("like " + Bench.times("x", 64) + "x", 5, 1);
    }

    static void terms_word_eachLetterTells() {
        Cases.lines("end aaaaaa;end aaaaab;end aaaaa;end baaaaa;end aaabaa;end a;", 6);
        BentPenny x = Bench.withTable("end zzzzzz;end zzzzz;end azzzzz;end z;end zz;end zzz;");
        String[] names = {"zzzzzz", "zzzzz", "azzzzz", "z", "zz", "zzz"};
        for (int e = 0; e < names.length; e++) {
            Bench.tape(x, names[e]).way();
            Cases.due("END " + names[e], x.nodeOf(0), e);
        }
    }

    static void terms_word_goesOnThroughDigits() {
        Cases.tableFault("end a1;", 4, 1);
        Cases.tableFault("end1 a;", 0, 1);
        Cases.tableFault("coin a 1 2x;", 9, 1);
        Cases.wayFault("q(x:x1)", 4, 1);
        Cases.eveningFault("q1;", 0, 1);
        Cases.sentenceFault("place1=2", 0, 1);
    }

    // ---- TOKENS: NUMBERS ----

    static void terms_number_anyDigitAndNoOtherByte() {
        for (int sign = 0; sign < 256; sign++) {
            String text = "coin a 0 " + (char) sign + ";";
            if (digit(sign)) {
                tableAnswer(text, sign >= '2' ? 1 : -10, sign >= '2' ? 0 : 2);
            } else {
                tableAnswer(text, blank(sign) ? -11 : -10, 1);
            }
        }
    }

    static void terms_number_ofOneToThreeDigits() {
        Cases.lines("end a 7 9;end b 07 09;end c 007 009;", 3);
        BentPenny x = Bench.withTable("end a 007 020;");
        Cases.due("K of three digits", x.share(0, 0), 7);
        Cases.due("M of three digits", x.share(0, 1), 20);
        eveningAnswer("q 000;", NONE, 0);
        eveningAnswer("q 999;", 0, 0);
        Cases.ones("place<999", 1);
    }

    static void terms_number_ofFourDigitsIsNoToken() {
        Cases.tableFault("end a 0007 9;", 6, 1);
        Cases.tableFault("coin a 1 0002;", 9, 1);
        Cases.tableFault("wheel w 0001 1;", 8, 1);
        Cases.eveningFault("q 0000;", 2, 1);
        Cases.eveningFault("q 1000;", 2, 1);
        Cases.sentenceFault("place<1000", 6, 1);
    }

    static void terms_number_ofSoManyDigitsThatItWouldWrapIsNoToken() {
        Cases.tableFault("coin a 4294967297 2;", 7, 1);
        Cases.eveningFault("q 4294967296;", 2, 1);
        Cases.sentenceFault("place=4294967296", 6, 1);
        Cases.sentenceFault("place=18446744073709551616", 6, 1);
    }

    static void terms_number_goesOnThroughLetters() {
        Cases.tableFault("coin a 1a 2;", 7, 1);
        Cases.eveningFault("q 0x;", 2, 1);
        Cases.sentenceFault("place=1and comes", 6, 1);
    }

    // ---- TOKENS: signs, and what is none ----

    static void terms_signs_inAWayOnlyTheirOwn() {
        for (int sign = 0; sign < 256; sign++) {
            String text = "q(x" + (char) sign + "y)";
            if (sign == ':') {
                wayAnswer(text, 3, 0);
            } else if (letter(sign)) {
                wayAnswer(text, -1 - 2, 3);
            } else if (sign == ')') {
                wayAnswer(text, -1 - 3, 5);
            } else {
                wayAnswer(text, -1 - (digit(sign) ? 2 : blank(sign) ? 4 : 3), 1);
            }
        }
    }

    static void terms_signs_inASentenceOnlyTheirOwn() {
        for (int sign = 0; sign < 256; sign++) {
            String text = "comes and place" + (char) sign + "1";
            if (sign == '<' || sign == '=' || sign == '>') {
                sentenceAnswer(text, 2, 0);
            } else {
                sentenceAnswer(text, -1 - (letter(sign) || digit(sign) ? 10 : blank(sign) ? 16 : 15), 1);
            }
        }
    }

    static void terms_signs_inAnEveningOnlyTheirOwn() {
        for (int sign = 0; sign < 256; sign++) {
            String text = "q 1" + (char) sign + "w 1;";
            if (sign == ';') {
                eveningAnswer(text, NONE, 0);
            } else {
                eveningAnswer(text, -2 - (letter(sign) || digit(sign) ? 2 : blank(sign) ? 4 : 3), 1);
            }
        }
    }

    static void terms_signs_aFullStopCanNeverCome() {
        Cases.tableFault(".", 0, 1);
        Cases.tableFault("end a.", 5, 1);
        Cases.wayFault("x.", 1, 1);
        Cases.wayFault("q(.:x)", 2, 1);
        Cases.eveningFault("q 0;.", 4, 1);
        Cases.sentenceFault("comes.", 5, 1);
    }

    static void terms_noToken_bytesOf128AndMore() {
        Cases.tableFault("end " + (char) ('a' + 128) + ";", 4, 1);
        Cases.tableFault("end a" + (char) (';' + 128), 5, 1);
        Cases.tableFault("end a" + (char) (' ' + 128) + ";", 5, 1);
        Cases.tableFault("coin a " + (char) ('1' + 128) + " 2;", 7, 1);
        Cases.wayFault("q" + (char) ('(' + 128), 1, 1);
        Cases.sentenceFault("comes" + (char) 255, 5, 1);
    }

    // ---- TABLE: bytes and LINES ----

    static void terms_table_ofNothing() {
        Cases.lines("", 0);
    }

    static void terms_table_of500Bytes() {
        Cases.lines(Cases.padded("end a;", 500, ""), 1);
        Cases.lines(Cases.padded("", 494, "end a;"), 1);
        Cases.lines(Cases.blanks(500), 0);
    }

    static void terms_table_of501Bytes() {
        Cases.tableFault(Cases.padded("end a;", 501, ""), 500, 1);
        Cases.tableFault(Cases.padded("end a;", 500, "\n"), 500, 1);
        Cases.tableFault(Cases.padded("", 495, "end a;"), 500, 1);
        Cases.tableFault(Cases.blanks(501), 500, 1);
    }

    static void terms_table_of640Bytes() {
        Cases.tableFault(Cases.padded("end a;", 640, ""), 500, 1);
    }

    static void terms_table_aLineNeedsItsSemicolon() {
        Cases.tableFault("end a", 5, 1);
        Cases.tableFault("end a end b;", 6, 1);
        Cases.tableFault("coin q 1 2", 10, 1);
        Cases.tableFault("coin q open", 11, 1);
        Cases.tableFault("wheel w 1 1", 11, 1);
        Cases.tableFault("end a 1 2", 9, 1);
    }

    static void terms_table_aSemicolonAloneIsNoLine() {
        Cases.tableFault(";", 0, 1);
        Cases.tableFault("end a;;", 6, 1);
    }

    static void terms_table_aLineBeginsByItsWord() {
        Cases.tableFault("penny a 1 2;", 0, 1);
        Cases.tableFault("1", 0, 1);
        Cases.tableFault("open a;", 0, 1);
        Cases.tableFault("again;", 0, 1);
        Cases.tableFault("coi n 1 2;", 0, 1);
        Cases.tableFault("coins a 1 2;", 0, 1);
    }

    // ---- TABLE: coins ----

    static void terms_coin_mOf2IsTheLeast() {
        Cases.lines("coin q 1 2;", 1);
        Cases.tableFault("coin q 1 1;", 9, 2);
        Cases.tableFault("coin q 0 0;", 9, 2);
        Cases.tableFault("coin q 0 1;", 9, 2);
    }

    static void terms_coin_mOf9IsTheGreatest() {
        Cases.lines("coin q 1 9;", 1);
        Cases.tableFault("coin q 1 10;", 9, 2);
        Cases.tableFault("coin q 1 999;", 9, 2);
    }

    static void terms_coin_kOf0IsTheLeast() {
        BentPenny x = Bench.withTable("coin q 0 2;");
        Cases.due("its head", x.side(0, 0), 0);
        Cases.due("its tail", x.side(0, 1), 2);
    }

    static void terms_coin_kOfMIsTheGreatest() {
        BentPenny x = Bench.withTable("coin q 2 2;coin r 9 9;");
        Cases.due("its head", x.side(0, 0), 2);
        Cases.due("its tail", x.side(0, 1), 0);
        Cases.due("the other's head", x.side(1, 0), 9);
        Cases.due("the other's tail", x.side(1, 1), 0);
    }

    static void terms_coin_kAboveMIsAFaultAtM() {
        Cases.tableFault("coin q 3 2;", 9, 2);
        Cases.tableFault("coin q 9 8;", 9, 2);
    }

    static void terms_coin_kAboveEveryMIsAFaultAtK() {
        Cases.tableFault("coin q 10 9;", 7, 2);
        Cases.tableFault("coin q 999 9;", 7, 2);
    }

    static void terms_coin_openHasNoNumbers() {
        Cases.lines("coin q open;", 1);
        Cases.tableFault("coin q open 1 2;", 12, 1);
        Cases.tableFault("coin q 1 open;", 9, 1);
    }

    static void terms_coin_withTooFewOrTooManyNumbers() {
        Cases.tableFault("coin q;", 6, 1);
        Cases.tableFault("coin q 1;", 8, 1);
        Cases.tableFault("coin q 1 2 3;", 11, 1);
    }

    static void terms_coin_aSecondOpenOneIsAFaultAtOpen() {
        Cases.tableFault("coin a open;coin b open;", 19, 3);
        Cases.tableFault("coin a open;coin b 1 2;coin c open;", 30, 3);
    }

    static void terms_coin_theOpenOneMayBeAnyOfThree() {
        Cases.lines("coin a open;coin b 1 2;coin c 1 2;", 3);
        BentPenny x = Bench.withTable("coin a 1 2;coin b 1 2;coin c open;");
        Cases.due("the open coin", x.count(3), 2);
    }

    // ---- TABLE: wheels ----

    static void terms_wheel_twoSidesAreTheFewest() {
        BentPenny x = Bench.withTable("wheel w 1 1;");
        Cases.due("SIDES", x.thing(0, 0), 2);
        Cases.tableFault("wheel w 1;", 9, 1);
        Cases.tableFault("wheel w;", 7, 1);
        Cases.tableFault("wheel w 1", 9, 1);
    }

    static void terms_wheel_sixSidesAreTheMost() {
        BentPenny x = Bench.withTable("wheel w 1 1 1 1 1 1;");
        Cases.due("SIDES", x.thing(0, 0), 6);
        Cases.tableFault("wheel w 1 1 1 1 1 1 1;", 20, 4);
        Cases.tableFault("wheel w 1 1 1 1 1 1 1 1 1;", 20, 4);
        Cases.tableFault("wheel w 1 1 1 1 1 1 3", 20, 4);
    }

    static void terms_wheel_onePartIsTheLeastOfASide() {
        Cases.tableFault("wheel w 0 1;", 8, 2);
        Cases.tableFault("wheel w 1 0;", 10, 2);
        Cases.tableFault("wheel w 1 1 1 1 1 000;", 18, 2);
    }

    static void terms_wheel_eightPartsAreTheMostOfASideWithOneBeside() {
        BentPenny x = Bench.withTable("wheel w 8 1;wheel v 1 8;");
        Cases.due("SIDE 0 of w", x.side(0, 0), 8);
        Cases.due("SIDE 1 of v", x.side(1, 1), 8);
    }

    static void terms_wheel_nineOfASideMayComeButNoMore() {
        Cases.tableFault("wheel w 9", 9, 1);
        Cases.tableFault("wheel w 9;", 9, 1);
        Cases.tableFault("wheel w 10 1;", 8, 2);
        Cases.tableFault("wheel w 999;", 8, 2);
    }

    static void terms_wheel_ninePartsTogether() {
        Cases.lines("wheel w 4 5;wheel v 1 1 1 1 1 4;wheel u 3 3 3;", 3);
    }

    static void terms_wheel_tenPartsTogetherAreAFaultAtTheNumber() {
        Cases.tableFault("wheel w 5 5;", 10, 2);
        Cases.tableFault("wheel w 9 1;", 10, 2);
        Cases.tableFault("wheel w 3 3 3 1;", 14, 2);
        Cases.tableFault("wheel w 1 1 1 1 1 5;", 18, 2);
        Cases.tableFault("wheel w 5 5 %", 10, 2);
    }

    static void terms_wheel_aSeventhSideThatIsNotAsToldIsTheLeastFault() {
        Cases.tableFault("wheel w 1 1 1 1 1 1 4;", 20, 2);
        Cases.tableFault("wheel w 1 1 1 1 1 1 0;", 20, 2);
        Cases.tableFault("wheel w 1 1 1 1 1 1 1000;", 20, 1);
        Cases.tableFault("wheel w 1 1 1 1 1 1 x;", 20, 1);
    }

    static void terms_wheel_open() {
        Cases.tableFault("wheel w open;", 8, 1);
    }

    // ---- TABLE: ends ----

    static void terms_end_withoutAShare() {
        Cases.lines("end a;", 1);
    }

    static void terms_end_mOf1IsTheLeast() {
        Cases.lines("end a 0 1;end b 1 1;", 2);
        Cases.tableFault("end a 0 0;", 8, 2);
    }

    static void terms_end_mOf20IsTheGreatest() {
        Cases.lines("end a 0 20;end b 1 20;", 2);
        Cases.tableFault("end a 0 21;", 8, 2);
        Cases.tableFault("end a 0 999;", 8, 2);
    }

    static void terms_end_kOf0IsTheLeastAndKOfMTheGreatest() {
        BentPenny x = Bench.withTable("end a 0 20;end b 20 20;end c 1 1;");
        Cases.due("K of a", x.share(0, 0), 0);
        Cases.due("K of b", x.share(1, 0), 20);
        Cases.due("K of c", x.share(2, 0), 1);
    }

    static void terms_end_kAboveMIsAFaultAtM() {
        Cases.tableFault("end a 2 1;", 8, 2);
        Cases.tableFault("end a 20 19;", 9, 2);
    }

    static void terms_end_kAboveEveryMIsAFaultAtK() {
        Cases.tableFault("end a 21 20;", 6, 2);
        Cases.tableFault("end a 999 20;", 6, 2);
    }

    static void terms_end_withTooFewOrTooManyNumbers() {
        Cases.tableFault("end a 1;", 7, 1);
        Cases.tableFault("end a 1 2 3;", 10, 1);
        Cases.tableFault("end a open;", 6, 1);
    }

    // ---- TABLE: NAMES ----

    static void terms_name_noneOfTheToldWords() {
        for (String word : TOLD_WORDS) {
            tableAnswer("coin " + word + " 1 2;", -1 - 5, 1);
            tableAnswer("wheel " + word + " 1 1;", -1 - 6, 1);
            tableAnswer("end " + word + ";", -1 - 4, 1);
        }
    }

    static void terms_name_besideAToldWord() {
        for (String word : TOLD_WORDS) {
            tableAnswer("end " + word.substring(0, word.length() - 1) + ";", 1, 0);
            tableAnswer("end " + word.substring(1) + ";", 1, 0);
            if (word.length() < 6) {
                tableAnswer("coin " + word + "s 1 2;", 1, 0);
                tableAnswer("wheel a" + word + " 1 1;", 1, 0);
            }
        }
    }

    static void terms_name_missing() {
        Cases.tableFault("end;", 3, 1);
        Cases.tableFault("end", 3, 1);
        Cases.tableFault("coin 1 2;", 5, 1);
        Cases.tableFault("wheel 1 1;", 6, 1);
    }

    static void terms_name_toldTwiceIsAFaultAtIt() {
        Cases.tableFault("end a;end a;", 10, 3);
        Cases.tableFault("coin a 1 2;coin a 1 2;", 16, 3);
        Cases.tableFault("coin a 1 2;wheel a 1 1;", 17, 3);
    }

    static void terms_name_toldTwiceByAnotherSortIsAFaultAtIt() {
        Cases.tableFault("coin a 1 2;end a;", 15, 3);
        Cases.tableFault("end a;coin a 1 2;", 11, 3);
        Cases.tableFault("end a;wheel a 1 1;", 12, 3);
        Cases.tableFault("coin a open;end b;end c;end a;", 28, 3);
    }

    static void terms_name_ofTheTableAheadMayBeToldAnew() {
        BentPenny x = Bench.withTable("coin a 1 2;end b;");
        Cases.due("the same NAMES", Bench.tape(x, "end a;coin b 1 2;").table(), 2);
        Cases.due("THINGS", x.count(0), 1);
    }

    static void terms_name_ofATableWithAFaultMayBeToldAnew() {
        BentPenny x = Cases.withTape("coin a 1 2;end b;%");
        x.table();
        Cases.due("the same NAMES", Bench.tape(x, "end a;end b;").table(), 2);
    }

    // ---- TABLE: how many ----

    static void terms_things_threeAreTheMost() {
        Cases.lines(THREE_THINGS, 3);
        Cases.tableFault(THREE_THINGS + "coin l 1 2;", 35, 4);
        Cases.tableFault(THREE_THINGS + "wheel l 1 1;", 35, 4);
        Cases.tableFault(THREE_THINGS + "end a;coin l 1 2;", 41, 4);
    }

    static void terms_things_aFourthIsAFaultAheadOfWhatIsWrongInIt() {
        Cases.tableFault(THREE_THINGS + "coin", 35, 4);
        Cases.tableFault(THREE_THINGS + "coin i 1 2;", 35, 4);
        Cases.tableFault(THREE_THINGS + "wheel 1 1;", 35, 4);
        Cases.tableFault(THREE_THINGS + "coin l open;", 35, 4);
    }

    static void terms_ends_sixAreTheMost() {
        Cases.lines(SIX_ENDS, 6);
        Cases.tableFault(SIX_ENDS + "end g;", 36, 4);
        Cases.tableFault(SIX_ENDS + "coin q 1 2;end g;", 47, 4);
    }

    static void terms_ends_aSeventhIsAFaultAheadOfWhatIsWrongInIt() {
        Cases.tableFault(SIX_ENDS + "end", 36, 4);
        Cases.tableFault(SIX_ENDS + "end a;", 36, 4);
        Cases.tableFault(SIX_ENDS + "end g 2 1;", 36, 4);
    }

    static void terms_table_fullOfThingsAndEnds() {
        Cases.lines(SIX_ENDS + THREE_THINGS, 9);
        Cases.tableFault(SIX_ENDS + THREE_THINGS + "end g;", 71, 4);
        Cases.tableFault(SIX_ENDS + THREE_THINGS + "coin l 1 2;", 71, 4);
    }

    static void terms_numbers_thingsAndEndsFrom0Each() {
        BentPenny x = Bench.withTable("end a 1 2;coin q 1 3;end b 3 4;wheel w 2 2 5;");
        Cases.due("share of END 0", x.share(0, 1), 2);
        Cases.due("share of END 1", x.share(1, 1), 4);
        Cases.due("parts of THING 0", x.thing(0, 1), 3);
        Cases.due("parts of THING 1", x.thing(1, 1), 9);
        Bench.tape(x, "w(a:b:q(a:b))").way();
        int[] due = {1, 0, 1, 0, 0, 1};
        for (int k = 0; k < due.length; k++) {
            Cases.due("nodeOf " + k, x.nodeOf(k), due[k]);
        }
    }

    static void terms_numbers_sidesOfACoinAreHeadThenTail() {
        BentPenny x = Bench.withWay("coin q 2 7;end a;end b;", "q(a:b)");
        Cases.due("head", x.side(0, 0), 2);
        Cases.due("tail", x.side(0, 1), 5);
        Cases.fraction("CHANCE of a", x, (o, what) -> o.chance(0, what), 2, 7);
    }

    // ---- WAY ----

    static void terms_way_of600Bytes() {
        Cases.nodes(Bench.TABLE, Cases.padded("x", 600, ""), 1);
        Cases.nodes(Bench.TABLE, Cases.padded("", 594, "q(x:y)"), 3);
    }

    static void terms_way_of601Bytes() {
        Cases.wayFault(Cases.padded("x", 601, ""), 600, 1);
        Cases.wayFault(Cases.padded("", 595, "q(x:y)"), 600, 1);
        Cases.wayFault(Cases.padded("x", 640, ""), 600, 1);
    }

    static void terms_way_ofNothing() {
        Cases.wayFault("", 0, 1);
        Cases.wayFault(Cases.blanks(600), 600, 1);
        Cases.wayFault(Cases.blanks(601), 600, 1);
    }

    static void terms_way_ofOneNode() {
        Cases.nodes(Bench.TABLE, "x", 1);
        Cases.nodes(Bench.TABLE, "again", 1);
        Cases.nodes("", "again", 1);
    }

    static void terms_way_behindItsNodeNothingComes() {
        Cases.wayFault("x x", 2, 1);
        Cases.wayFault("x;", 1, 1);
        Cases.wayFault("x:y", 1, 1);
        Cases.wayFault("x)", 1, 1);
        Cases.wayFault("q(x:y))", 6, 1);
        Cases.wayFault("q(x:y):x", 6, 1);
        Cases.wayFault("q(x:y)q(x:y)", 6, 1);
    }

    static void terms_way_aThingWithoutItsNodes() {
        Cases.wayFault("q", 1, 1);
        Cases.wayFault("q:", 1, 1);
        Cases.wayFault("q(", 2, 1);
        Cases.wayFault("q()", 2, 1);
        Cases.wayFault("q(:x)", 2, 1);
        Cases.wayFault("q(x:)", 4, 1);
        Cases.wayFault("q(x:y", 5, 1);
        Cases.wayFault("q(x", 3, 1);
    }

    static void terms_way_anEndOrAgainHasNoNodes() {
        Cases.wayFault("x(y:y)", 1, 1);
        Cases.wayFault("again(y:y)", 5, 1);
    }

    static void terms_way_aNumberCantCome() {
        Cases.wayFault("1", 0, 1);
        Cases.wayFault("q 1;", 2, 1);
        Cases.wayFault("q(x:0)", 4, 1);
    }

    static void terms_way_aToldWordButAgainCantCome() {
        for (String word : TOLD_WORDS) {
            if (word.equals("again")) {
                wayAnswer("q(x:again)", 3, 0);
            } else {
                wayAnswer("q(x:" + word + ")", -1 - 4, 1);
            }
        }
    }

    static void terms_way_aNameNotToldIsAFaultAtIt() {
        Cases.wayFault("z", 0, 3);
        Cases.wayFault("q(x:z)", 4, 3);
        Cases.wayFault("xx", 0, 3);
        Cases.wayFault("z(x:y)", 0, 3);
    }

    static void terms_way_asManyNodesAsSides() {
        Cases.nodes(SIDES_TABLE, "q(x:x)", 3);
        Cases.nodes(SIDES_TABLE, "v(x:x:x)", 4);
        Cases.nodes(SIDES_TABLE, "w(x:x:x:x:x:x)", 7);
        Cases.nodes(Bench.TABLE, "p(x:x)", 3);
    }

    static void terms_way_oneNodeTooFewIsAFaultAtTheBracket() {
        Cases.wayFault(SIDES_TABLE, "q(x)", 3, 5);
        Cases.wayFault(SIDES_TABLE, "v(x:x)", 5, 5);
        Cases.wayFault(SIDES_TABLE, "w(x:x:x:x:x)", 11, 5);
        Cases.wayFault(SIDES_TABLE, "w(x)", 3, 5);
        Cases.wayFault(Bench.TABLE, "p(x)", 3, 5);
    }

    static void terms_way_oneNodeTooManyIsAFaultAtTheColon() {
        Cases.wayFault(SIDES_TABLE, "q(x:x:x)", 5, 5);
        Cases.wayFault(SIDES_TABLE, "v(x:x:x:x)", 7, 5);
        Cases.wayFault(SIDES_TABLE, "w(x:x:x:x:x:x:x)", 13, 5);
        Cases.wayFault(SIDES_TABLE, "q(x:x:%", 5, 5);
        Cases.wayFault(Bench.TABLE, "p(x:x:x)", 5, 5);
    }

    static void terms_way_nodesOfAnotherNumberWithinOthers() {
        Cases.wayFault("q(x:w(x:y))", 9, 5);
        Cases.wayFault("q(w(x:y:x:y):x)", 9, 5);
        Cases.wayFault("q(q(x:y))", 8, 5);
    }

    private static final class Tree {
        private String name = "x";
        private Tree[] sides = {};

        private void put(StringBuilder text) {
            text.append(name);
            for (int i = 0; i < sides.length; i++) {
                text.append(i == 0 ? '(' : ':');
                sides[i].put(text);
            }
            text.append(sides.length > 0 ? ")" : "");
        }
    }

    /** A WAY in SIDES_TABLE with so many NODES, as flat as can be. */
    private static String wayOf(int nodes) {
        Tree root = new Tree();
        java.util.ArrayDeque<Tree> leaves = new java.util.ArrayDeque<>();
        leaves.add(root);
        int left = nodes - 1;
        while (left > 0) {
            int sides = left % 2 == 1 ? 3 : left >= 6 ? 6 : 2;
            Tree at = leaves.remove();
            at.name = sides == 3 ? "v" : sides == 6 ? "w" : "q";
            at.sides = new Tree[sides];
            for (int i = 0; i < sides; i++) {
                at.sides[i] = new Tree();
                leaves.add(at.sides[i]);
            }
            left -= sides;
        }
        StringBuilder text = new StringBuilder();
        root.put(text);
        return text.toString();
    }

    static void terms_way_eightyNodesAreTheMost() {
        Cases.nodes(SIDES_TABLE, wayOf(79), 79);
        Cases.nodes(SIDES_TABLE, wayOf(80), 80);
        BentPenny x = Bench.withWay(SIDES_TABLE, wayOf(80));
        Cases.due("NODE 79", x.node(79), 0);
        Cases.due("NODE 80", x.node(80), NONE);
    }

    static void terms_way_an81stNodeIsAFaultAtIt() {
        String text = wayOf(81);
        Cases.wayFault(SIDES_TABLE, text, text.lastIndexOf('x'), 4);
        String again = text.substring(0, text.lastIndexOf('x')) + "again" + text.substring(text.lastIndexOf('x') + 1);
        Cases.wayFault(SIDES_TABLE, again, text.lastIndexOf('x'), 4);
        String thing = text.substring(0, text.lastIndexOf('x')) + "q(x:x)" + text.substring(text.lastIndexOf('x') + 1);
        Cases.wayFault(SIDES_TABLE, thing, text.lastIndexOf('x'), 4);
        Cases.wayFault(SIDES_TABLE, text.substring(0, text.lastIndexOf('x') + 1), text.lastIndexOf('x'), 4);
    }

    static void terms_way_an81stNodeThatIsWorseIsTheLeastFault() {
        String ahead = wayOf(81).substring(0, wayOf(81).lastIndexOf('x'));
        Cases.wayFault(SIDES_TABLE, ahead + "z", ahead.length(), 3);
        Cases.wayFault(SIDES_TABLE, ahead + "so", ahead.length(), 1);
        Cases.wayFault(SIDES_TABLE, ahead + ")", ahead.length(), 1);
        Cases.wayFault(SIDES_TABLE, ahead, ahead.length(), 1);
    }

    static void terms_way_farMoreThan80Nodes() {
        BentPenny x = Bench.withTable(SIDES_TABLE);
        Cases.due("way()", Bench.tape(x, wayOf(200)).way() < -1, true);
        Cases.due("fault()", x.fault(), 4);
    }

    static void terms_way_sixThingsWithinOneAnother() {
        String six = "q(x:q(x:q(x:q(x:q(x:q(x:y))))))";
        Cases.nodes(Bench.TABLE, six, 13);
        Cases.due("deep()", Bench.withWay(Bench.TABLE, six).deep(), 6);
        Cases.nodes(Bench.TABLE, "q(q(q(q(q(q(x:x):x):x):x):x):x)", 13);
    }

    static void terms_way_aSeventhThingWithinIsAFaultAtIt() {
        Cases.wayFault("q(x:q(x:q(x:q(x:q(x:q(x:q(x:y)))))))", 24, 4);
        Cases.wayFault("q(q(q(q(q(q(q(", 12, 4);
        Cases.wayFault("q(x:q(x:q(x:q(x:q(x:q(x:w", 24, 4);
        Cases.wayFault("q(x:q(x:q(x:q(x:q(x:q(x:z", 24, 3);
        Cases.wayFault("q(x:q(x:q(x:q(x:q(x:q(x:coin", 24, 1);
    }

    static void terms_way_sixWithinManyTimes() {
        String five = "q(x:q(x:q(x:q(x:q(x:y)))))";
        Cases.nodes(Bench.TABLE, "q(" + five + ":" + five + ")", 23);
        Cases.due("deep()", Bench.withWay(Bench.TABLE, "q(" + five + ":" + five + ")").deep(), 6);
    }

    static void terms_way_againBeginsAnew() {
        BentPenny x = Bench.withWay(Bench.TABLE, "q(x:w(again:y:again))");
        Cases.due("EVENING", Bench.tape(x, "q 1;w 0;q 1;w 2;q 0;so x;").evening(), NONE);
    }

    // ---- EVENING ----

    static void terms_evening_of600Bytes() {
        eveningAnswer(Cases.padded("q 0;so x;", 600, ""), NONE, 0);
        eveningAnswer(Cases.padded("q 0;", 595, "so x;"), NONE, 0);
        eveningAnswer(Bench.times("q 1;w 1;", 75), NONE, 0);
    }

    static void terms_evening_of601Bytes() {
        Cases.eveningFault(Cases.padded("q 0;so x;", 601, ""), 600, 1);
        Cases.eveningFault(Cases.padded("q 0;", 596, "so x;"), 600, 1);
        Cases.eveningFault(Cases.padded("", 601, ""), 600, 1);
        Cases.eveningFault(Cases.padded("q 0;", 640, ""), 600, 1);
    }

    static void terms_evening_ofNothing() {
        BentPenny x = Bench.withWay(Bench.TABLE, Cases.CLOSED_WAY);
        Cases.due("evening()", x.evening(), NONE);
        Cases.due("fault()", x.fault(), 0);
        int[] due = {0, 0, 0, NONE};
        for (int what = 0; what < 4; what++) {
            Cases.due("judged " + what, x.judged(what), due[what]);
        }
    }

    static void terms_evening_ofSoAlone() {
        eveningAnswer("so x;", 0, 0);
        BentPenny x = Bench.withWay(Bench.TABLE, "x");
        Cases.due("evening()", Bench.tape(x, "so x;").evening(), NONE);
    }

    static void terms_evening_behindSoNothingComes() {
        Cases.eveningFault("so x;so x;", 5, 1);
        Cases.eveningFault("so x;q 0;", 5, 1);
        Cases.eveningFault("so x;;", 5, 1);
    }

    static void terms_evening_aLineThatIsNotAsTold() {
        Cases.eveningFault(";", 0, 1);
        Cases.eveningFault("0;", 0, 1);
        Cases.eveningFault("q", 1, 1);
        Cases.eveningFault("q;", 1, 1);
        Cases.eveningFault("q x;", 2, 1);
        Cases.eveningFault("q 0", 3, 1);
        Cases.eveningFault("q 0 1;", 4, 1);
        Cases.eveningFault("q 0;w", 5, 1);
        Cases.eveningFault("so", 2, 1);
        Cases.eveningFault("so;", 2, 1);
        Cases.eveningFault("so 1;", 3, 1);
        Cases.eveningFault("so x", 4, 1);
        Cases.eveningFault("so x 1;", 5, 1);
    }

    static void terms_evening_aNameNotToldOrOfAnotherSort() {
        Cases.eveningFault("z 0;", 0, 3);
        Cases.eveningFault("x 0;", 0, 3);
        Cases.eveningFault("q 0;x 0;", 4, 3);
        Cases.eveningFault("so z;", 3, 3);
        Cases.eveningFault("so q;", 3, 3);
    }

    static void terms_evening_aToldWordButSoCantCome() {
        for (String word : TOLD_WORDS) {
            if (!word.equals("so")) {
                eveningAnswer(word + " 0;", -2, 1);
            }
            eveningAnswer("so " + word + ";", -2 - 3, 1);
        }
    }

    static void terms_evening_aFaultBehindAWrongLine() {
        Cases.eveningFault("q 7;z 0;", 4, 3);
        Cases.eveningFault("p 0;so x", 8, 1);
        Cases.eveningFault("q 0;q 0;q 1000;", 10, 1);
    }

    // ---- FAULTS ----

    static void terms_fault_theFirstAlongTheText() {
        Cases.tableFault("end a;end a;%", 10, 3);
        Cases.tableFault("end a;%;end a;", 6, 1);
        Cases.tableFault("coin q 3 2 2;", 9, 2);
        Cases.tableFault("coin q 10 1000;", 7, 2);
        Cases.tableFault("end z 21 a1", 6, 2);
        Cases.wayFault("q(z:x:x)", 2, 3);
        Cases.wayFault("q(x:x:z)", 5, 5);
        Cases.wayFault("q(x)%", 3, 5);
        Cases.sentenceFault("like z %", 5, 3);
    }

    static void terms_fault_atTheEndOfTheText() {
        Cases.tableFault("end", 3, 1);
        Cases.tableFault("end a  \n", 8, 1);
        Cases.tableFault(Cases.padded("end a", 500, ""), 500, 1);
        Cases.wayFault("q(x:y ", 6, 1);
        Cases.wayFault(Cases.padded("q(x:y", 600, ""), 600, 1);
        Cases.eveningFault("q 0  ", 5, 1);
        Cases.eveningFault(Cases.padded("q 0", 600, ""), 600, 1);
        Cases.sentenceFault("not ", 4, 1);
        Cases.sentenceFault(Cases.padded("not", 200, ""), 200, 1);
    }

    static void terms_fault_atTheMostBytesOfATextThatIsNotAtItsEnd() {
        Cases.tableFault(Cases.padded("end a", 501, ""), 500, 1);
        Cases.tableFault(Cases.padded("end a", 640, ""), 500, 1);
        Cases.wayFault(Cases.padded("q(x:y", 640, ""), 600, 1);
        Cases.eveningFault(Cases.padded("q 0", 640, ""), 600, 1);
        Cases.sentenceFault(Cases.padded("not", 640, ""), 200, 1);
    }

    static void terms_fault_aheadOfTheMostBytesOfALongerText() {
        Cases.tableFault(Cases.padded("end a;%", 640, ""), 6, 1);
        Cases.tableFault(Cases.padded("end a;", 499, "%%"), 499, 1);
        Cases.wayFault(Cases.padded("q(x:z)", 640, ""), 4, 3);
        Cases.wayFault(Cases.padded("q(x:y", 599, ":x)"), 599, 5);
        Cases.eveningFault(Cases.padded("z 0;", 640, ""), 0, 3);
        Cases.sentenceFault(Cases.padded("like z", 640, ""), 5, 3);
    }

    static void terms_fault_behindTheMostBytesIsNotLookedAt() {
        Cases.tableFault(Cases.padded("end a;", 500, "end a;"), 500, 1);
        Cases.tableFault(Cases.padded("end a;", 500, "%"), 500, 1);
        Cases.wayFault(Cases.padded("q(x:y", 600, ":z)"), 600, 1);
        Cases.eveningFault(Cases.padded("q 0;", 600, "z 0;"), 600, 1);
        Cases.sentenceFault(Cases.padded("like", 200, " z"), 200, 1);
    }

    static void terms_fault_tokensAcrossTheMostBytesAreReadWhole() {
        Cases.tableFault(Cases.padded("end", 498, "aaaaaaa;"), 498, 1);
        Cases.tableFault(Cases.padded("end", 499, "aaaaaa;"), 500, 1);
        Cases.tableFault(Cases.padded("end a;end", 499, "ab;"), 500, 1);
        Cases.tableFault(Cases.padded("end ab;end", 499, "ab;"), 499, 3);
        Cases.tableFault(Cases.padded("coin q 0", 499, "20;"), 499, 2);
        Cases.tableFault(Cases.padded("coin q 0", 498, "002;"), 500, 1);
        Cases.tableFault(Cases.padded("coin q 0", 497, "0002;"), 497, 1);
        Cases.tableFault(Cases.padded("end", 498, "open;"), 498, 1);
        Cases.tableFault(Cases.padded("coin q open;coin r", 498, "open;"), 498, 3);
        Cases.wayFault(Cases.padded("q(x:", 597, "again)"), 600, 1);
        Cases.wayFault(Cases.padded("q(x:", 599, "xy)"), 599, 3);
        Cases.eveningFault(Cases.padded("", 599, "so x;"), 600, 1);
        Cases.eveningFault(Cases.padded("q", 599, "1000;"), 599, 1);
        Cases.sentenceFault(Cases.padded("", 199, "comes"), 200, 1);
        Cases.sentenceFault(Cases.padded("like", 199, "xy"), 199, 3);
    }

    static void terms_fault_aTokenAcrossAllOfTheTape() {
        Cases.tableFault(Cases.padded("end", 499, Bench.times("a", 141)), 499, 1);
        Cases.sentenceFault(Cases.padded("like", 199, Bench.times("x", 441)), 199, 1);
    }

    // ---- fractions ----

    static void terms_fraction_noughtIs0Of1() {
        BentPenny x = Bench.withWay("coin q 1 9;end a;end b;end c;", "q(a:b)");
        Cases.fraction("CHANCE 0", x, (o, what) -> o.chance(2, what), 0, 1);
        Cases.fraction("poly 0", x, (o, what) -> o.poly(0, 3, what), 0, 1);
        Cases.fraction("MEAN 0", Bench.withWay("end a;", "a"), (o, what) -> o.mean(0, 1, what), 0, 1);
        Cases.fraction("OFF 0", Bench.withTable("end a 1 2;end b 1 2;"), (o, what) -> o.off(1, what), 0, 1);
        Cases.fraction("FEWEST 0", Bench.withTable("end a 7 7;"), (o, what) -> o.fewest(what), 0, 1);
        Cases.fraction("countedMean 0", x, (o, what) -> o.countedMean(1, 1, 2, what), 0, 1);
        Cases.fraction("MIXED 0", Bench.withTable("coin q 0 4;"), (o, what) -> o.mixed(1, 0, what), 0, 1);
    }

    static void terms_fraction_allIs1Of1() {
        BentPenny x = Bench.withWay("coin q 9 9;end a;", "q(a:again)");
        Cases.fraction("CHANCE 1", x, (o, what) -> o.chance(0, what), 1, 1);
        Cases.fraction("MEAN 1", x, (o, what) -> o.mean(3, 9, what), 1, 1);
        Cases.fraction("poly 1", x, (o, what) -> o.poly(0, 0, what), 1, 1);
        Cases.fraction("LUCK 1", x, (o, what) -> o.luck(60, 30, what), 1, 1);
    }

    static void terms_fraction_belowNoughtHasItsSignAbove() {
        BentPenny x = Bench.withWay("coin p open;wheel w 2 4;end a;", "w(p(again:a):a)");
        Cases.fraction("p of a", x, (o, what) -> o.poly(0, 1, what), -1, 3);
        Cases.fraction("1 of a", x, (o, what) -> o.poly(0, 0, what), 1, 1);
    }

    static void terms_fraction_inLeastTerms() {
        BentPenny x = Bench.withWay("coin q 3 6;end a;end b;", "q(a:b)");
        Cases.fraction("CHANCE", x, (o, what) -> o.chance(0, what), 1, 2);
        Cases.fraction("CHANCE by 6 of 8", Bench.withWay("coin p open;end a;end b;", "p(a:b)"),
                (o, what) -> o.chanceAt(0, 6, 8, what), 3, 4);
        Cases.fraction("MIXED", Bench.withTable("coin q 4 8;"), (o, what) -> o.mixed(1, 1, what), 1, 2);
    }

    // ---- CHANCE, ROUND, LIKE ----

    static void terms_chance_againIsThrownOn() {
        BentPenny x = Bench.withWay("wheel w 1 1 7;end a;end b;", "w(a:b:again)");
        Cases.fraction("CHANCE", x, (o, what) -> o.chance(0, what), 1, 2);
        Cases.fraction("MEAN", x, (o, what) -> o.mean(0, 1, what), 9, 2);
    }

    static void terms_neverEnds_byChance0() {
        BentPenny x = Bench.withWay("coin q 0 2;end a;", "q(a:again)");
        Cases.due("chance", x, o -> o.chance(0, 0), Cases.THROWS);
        Cases.due("mean", x, o -> o.mean(1, 2, 0), Cases.THROWS);
    }

    static void terms_neverEnds_notByALittleChance() {
        BentPenny x = Bench.withWay("coin q 1 9;end a;end b;", "q(q(q(q(q(q(a:again):again):again):again):again):again)");
        Cases.fraction("CHANCE", x, (o, what) -> o.chance(0, what), 1, 1);
        Cases.fraction("MEAN", x, (o, what) -> o.mean(0, 1, what), 597870, 1);
    }

    static void terms_polynomial_ofTheSixthPower() {
        BentPenny x = Bench.withWay(Bench.TABLE, "p(p(p(p(p(p(x:y):y):y):y):y):y)");
        Cases.fraction("x by p to 6", x, (o, what) -> o.poly(0, 6, what), 1, 1);
        Cases.fraction("x by p to 5", x, (o, what) -> o.poly(0, 5, what), 0, 1);
        Cases.fraction("y by p to 6", x, (o, what) -> o.poly(1, 6, what), -1, 1);
        Cases.fraction("y by 1", x, (o, what) -> o.poly(1, 0, what), 1, 1);
    }

    static void terms_polynomial_ofTheSixthPowerOfTails() {
        BentPenny x = Bench.withWay(Bench.TABLE, "p(y:p(y:p(y:p(y:p(y:p(y:x))))))");
        int[] due = {1, -6, 15, -20, 15, -6, 1};
        for (int i = 0; i <= 6; i++) {
            int power = i;
            Cases.fraction("x by p to " + i, x, (o, what) -> o.poly(0, power, what), due[i], 1);
        }
    }

    static void terms_like_endsThatDifferInOnePowerAlone() {
        Cases.due("by 1 alone", Bench.withWay(Bench.TABLE, "q(x:again)").like(0, 1), 0);
        Cases.due("by p alone", Bench.withWay(Bench.TABLE, "p(x:again)").like(0, 1), 0);
        Cases.due("by p to 6 alone", Bench.withWay(Bench.TABLE,
                "p(p(p(p(p(p(x:again):again):again):again):again):again)").like(0, 1), 0);
        Cases.due("by none", Bench.withWay(Bench.TABLE, "p(w(x:again:x):w(x:again:x))").like(1, 1), 1);
    }

    // ---- WRONG ----

    private static void wrong(String way, String text, int line, int why, int tosses, int rounds, int end) {
        BentPenny x = Bench.withWay(Bench.TABLE, way);
        Cases.due("evening() of " + text, Bench.tape(x, text).evening(), line);
        int[] due = {why, tosses, rounds, end};
        for (int what = 0; what < 4; what++) {
            Cases.due("judged " + what + " of " + text, x.judged(what), due[what]);
        }
    }

    static void terms_wrong_1ItHasEndedAlready() {
        wrong(Cases.CLOSED_WAY, "q 0;q 0;", 1, 1, 1, 1, 0);
        wrong("x", "q 0;", 0, 1, 0, 0, 0);
    }

    static void terms_wrong_1IsTheLeastOfThree() {
        wrong(Cases.CLOSED_WAY, "q 0;p 9;", 1, 1, 1, 1, 0);
        wrong(Cases.CLOSED_WAY, "q 0;q 9;so y;", 1, 1, 1, 1, 0);
    }

    static void terms_wrong_2AnotherThing() {
        wrong(Cases.CLOSED_WAY, "p 0;", 0, 2, 0, 0, NONE);
        wrong(Cases.CLOSED_WAY, "q 1;q 1;", 1, 2, 1, 1, NONE);
        wrong(Cases.CLOSED_WAY, "q 1;w 1;w 1;", 2, 2, 2, 1, NONE);
    }

    static void terms_wrong_2IsTheLeastOfTwo() {
        wrong(Cases.CLOSED_WAY, "w 9;", 0, 2, 0, 0, NONE);
        wrong(Cases.CLOSED_WAY, "q 1;q 2;", 1, 2, 1, 1, NONE);
    }

    static void terms_wrong_2WhereAgainAloneIsTheWay() {
        wrong("again", "q 0;", 0, 2, 0, 0, NONE);
    }

    static void terms_wrong_3NoSuchSide() {
        wrong(Cases.CLOSED_WAY, "q 2;", 0, 3, 0, 0, NONE);
        wrong(Cases.CLOSED_WAY, "q 999;", 0, 3, 0, 0, NONE);
        wrong(Cases.CLOSED_WAY, "q 1;w 3;", 1, 3, 1, 1, NONE);
        wrong(Cases.CLOSED_WAY, "q 1;w 2;", NONE, 0, 2, 1, 0);
        wrong(Cases.OPEN_WAY, "p 2;", 0, 3, 0, 0, NONE);
    }

    static void terms_wrong_4NotEnded() {
        wrong(Cases.CLOSED_WAY, "so x;", 0, 4, 0, 0, NONE);
        wrong(Cases.CLOSED_WAY, "q 1;so x;", 1, 4, 1, 1, NONE);
        wrong(Cases.CLOSED_WAY, "q 1;w 1;so x;", 2, 4, 2, 1, NONE);
        wrong("again", "so x;", 0, 4, 0, 0, NONE);
    }

    static void terms_wrong_5EndedElsewhere() {
        wrong(Cases.CLOSED_WAY, "q 0;so y;", 1, 5, 1, 1, 0);
        wrong("y", "so x;", 0, 5, 0, 0, 1);
    }

    static void terms_wrong_theFirstLineAlone() {
        wrong(Cases.CLOSED_WAY, "p 0;q 0;so y;", 0, 2, 0, 0, NONE);
        wrong(Cases.CLOSED_WAY, "q 2;q 0;so x;", 0, 3, 0, 0, NONE);
        wrong(Cases.CLOSED_WAY, "q 0;q 0;so y;", 1, 1, 1, 1, 0);
    }

    // ---- SENTENCE ----

    static void terms_sentence_of200Bytes() {
        Cases.ones(Cases.padded("comes", 200, ""), 1);
        Cases.ones(Cases.padded("", 195, "comes"), 1);
    }

    static void terms_sentence_of201Bytes() {
        Cases.sentenceFault(Cases.padded("comes", 201, ""), 200, 1);
        Cases.sentenceFault(Cases.padded("", 196, "comes"), 200, 1);
        Cases.sentenceFault(Cases.padded("comes", 640, ""), 200, 1);
    }

    static void terms_sentence_ofNothing() {
        Cases.sentenceFault("", 0, 1);
        Cases.sentenceFault("()", 1, 1);
    }

    static void terms_sentence_ofOneOne() {
        Cases.ones("comes", 1);
        Cases.ones("shares", 1);
        Cases.ones("like x", 1);
        Cases.ones("place=0", 1);
        Cases.ones("knots>0", 1);
    }

    static void terms_sentence_twentyOnesAreTheMost() {
        Cases.ones(Bench.times("comes or ", 18) + "comes", 19);
        Cases.ones(Bench.times("comes or ", 19) + "comes", 20);
        Cases.ones(Bench.times("comes and ", 19) + "comes", 20);
        Cases.ones(Bench.times("not comes or ", 9) + "(comes)", 20);
    }

    static void terms_sentence_a21stOneIsAFaultAtIt() {
        String twenty = Bench.times("comes or ", 20);
        Cases.sentenceFault(twenty + "comes", 180, 4);
        Cases.sentenceFault(twenty + "not comes", 180, 4);
        Cases.sentenceFault(twenty + "(comes)", 180, 4);
        Cases.sentenceFault(twenty + "like z", 180, 4);
        Cases.sentenceFault(twenty + "place", 180, 4);
        Cases.sentenceFault(Bench.times("comes or ", 19) + "not comes", 175, 4);
        Cases.sentenceFault(Bench.times("not comes or ", 10) + "comes", 130, 4);
        Cases.sentenceFault(Bench.times("(comes)or ", 10) + "comes", 100, 4);
    }

    static void terms_sentence_a21stOneThatCantComeIsTheLeastFault() {
        Cases.sentenceFault(Bench.times("comes or ", 20) + "x", 180, 1);
        Cases.sentenceFault(Bench.times("comes or ", 20), 180, 1);
        Cases.sentenceFault(Bench.times("comes or ", 20) + "or", 180, 1);
    }

    static void terms_sentence_eightOnesWithinOneAnother() {
        Cases.ones(Bench.times("not ", 7) + "comes", 8);
        Cases.ones(Bench.times("(", 7) + "comes" + Bench.times(")", 7), 8);
        Cases.ones("not(not(not(not like x)))", 8);
    }

    static void terms_sentence_aNinthWithinIsAFaultAtIt() {
        Cases.sentenceFault(Bench.times("not ", 8) + "comes", 32, 4);
        Cases.sentenceFault(Bench.times("(", 8) + "comes" + Bench.times(")", 8), 8, 4);
        Cases.sentenceFault("not(not(not(not(like x))))", 16, 4);
        Cases.sentenceFault(Bench.times("not ", 9) + "comes", 32, 4);
        Cases.sentenceFault(Bench.times("(", 9), 8, 4);
        Cases.sentenceFault(Bench.times("not ", 8) + "like z", 32, 4);
    }

    static void terms_sentence_aNinthWithinThatCantComeIsTheLeastFault() {
        Cases.sentenceFault(Bench.times("not ", 8) + "x", 32, 1);
        Cases.sentenceFault(Bench.times("(", 8) + ")", 8, 1);
    }

    static void terms_sentence_eightWithinTwice() {
        String seven = Bench.times("not ", 7) + "comes";
        Cases.ones(seven + " or " + seven, 16);
        Cases.ones("(" + Bench.times("not ", 6) + "comes)and " + seven, 16);
        String six = Bench.times("(", 6) + "comes" + Bench.times(")", 6);
        Cases.ones("(" + six + " or " + six + ")", 15);
        Cases.ones("not (comes or " + Bench.times("not ", 5) + "comes)or comes", 10);
    }

    static void terms_sentence_aNinthWithinBehindOthers() {
        Cases.sentenceFault("comes or " + Bench.times("(", 7) + "comes and not comes", 30, 4);
        Cases.sentenceFault("comes or " + Bench.times("(", 7) + "comes or (comes", 26, 4);
    }

    static void terms_sentence_signsAndWordsThatCantCome() {
        Cases.sentenceFault("x", 0, 1);
        Cases.sentenceFault("1", 0, 1);
        Cases.sentenceFault(";", 0, 1);
        Cases.sentenceFault("comes comes", 6, 1);
        Cases.sentenceFault("comes or", 8, 1);
        Cases.sentenceFault("comes and", 9, 1);
        Cases.sentenceFault("comes or or comes", 9, 1);
        Cases.sentenceFault("or comes", 0, 1);
        Cases.sentenceFault("not", 3, 1);
        Cases.sentenceFault("not and comes", 4, 1);
        Cases.sentenceFault("(comes", 6, 1);
        Cases.sentenceFault("comes)", 5, 1);
        Cases.sentenceFault("(comes))", 7, 1);
        Cases.sentenceFault("like", 4, 1);
        Cases.sentenceFault("like 1", 5, 1);
        Cases.sentenceFault("place", 5, 1);
        Cases.sentenceFault("place 1", 6, 1);
        Cases.sentenceFault("place=", 6, 1);
        Cases.sentenceFault("place=x", 6, 1);
        Cases.sentenceFault("knots==1", 6, 1);
        Cases.sentenceFault("comes=1", 5, 1);
    }

    static void terms_sentence_toldWordsOfOtherTextsCantCome() {
        for (String word : new String[] {"coin", "open", "wheel", "end", "again", "so", "or", "and"}) {
            sentenceAnswer(word, -1, 1);
        }
        for (String word : TOLD_WORDS) {
            sentenceAnswer("like " + word, -1 - 5, 1);
        }
    }

    static void terms_sentence_noSuchEnd() {
        Cases.sentenceFault("like z", 5, 3);
        Cases.sentenceFault("like q", 5, 3);
        Cases.sentenceFault("comes and like p or comes", 15, 3);
    }

    static void terms_sentence_anyNumberIsAsTold() {
        Cases.ones("place=0 or place=000 or knots=999 or knots<0", 4);
    }

    // ---- a new TABLE ----

    static void terms_newTable_hasNoWayAndNoSentence() {
        BentPenny x = Cases.full();
        x.end(0);
        Cases.due("table()", Bench.tape(x, Bench.TABLE).table(), 5);
        Cases.due("NODES", x.count(2), 0);
        Cases.due("deep()", x.deep(), 0);
        Cases.due("node(0)", x.node(0), NONE);
        Cases.due("write()", x.write(), NONE);
        Cases.due("even()", x.even(), NONE);
        Cases.due("chance", x, o -> o.chance(0, 0), Cases.THROWS);
        Bench.tape(x, "x").way();
        Cases.due("no SENTENCE", x.said(NONE), NONE);
    }

    static void terms_newTable_ofNothingToo() {
        BentPenny x = Cases.full();
        x.end(0);
        Cases.due("table()", x.table(), 0);
        Cases.due("THINGS", x.count(0), 0);
        Cases.due("ENDS", x.count(1), 0);
        Cases.due("NODES", x.count(2), 0);
        Bench.tape(x, "again").way();
        Cases.due("no SENTENCE", x.said(NONE), NONE);
    }

    static void terms_newTable_aWayAfterItLeavesTheSentence() {
        BentPenny x = Bench.withWay(Bench.TABLE, "x");
        Bench.tape(x, "comes").sentence();
        Bench.tape(x, "y").way();
        Cases.due("said by the new WAY", x.said(0), 1);
    }
}
