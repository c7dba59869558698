import java.util.NoSuchElementException;

/** Fair throws by bent coins and wheels, as ../shared/DOC.md promises them. */
public final class BentPenny {
    public static final int NONE = -1;

    private static final int TAPE_MOST = 640;
    private static final int TABLE_MOST = 500;
    private static final int WAY_MOST = 600;
    private static final int EVENING_MOST = 600;
    private static final int SENTENCE_MOST = 200;
    private static final int ROW_MOST = 600;

    private static final int THINGS = 3;
    private static final int ENDS = 6;
    private static final int SIDES = 6;
    private static final int NODES = 80;
    private static final int DEEP = 6;
    private static final int IMAGES = 2;

    private static final int SORT_END = 0;
    private static final int SORT_AGAIN = 1;
    private static final int SORT_THING = 2;

    private static final int CANT_COME = 1;
    private static final int BAD_NUMBER = 2;
    private static final int BAD_NAME = 3;
    private static final int TOO_MANY = 4;
    private static final int OTHER_SIDES = 5;

    private static final int NO_WAY = -1000;
    private static final int NOT_AS_TOLD = -2;
    private static final int CAST_MOST = 400;

    private final byte[] tape;
    private int tapeSize;
    private final Tokens tokens;
    private int latestFault;
    private final State now;
    private final State draft;
    private final State[] images;
    private int tablesRead;
    private final Odds odds;
    private final Fraction fraction;
    private final Judge judge;
    private final byte[] row;
    private final Bits bits;
    private final Shares shares;
    private final Fraction runsChance;
    private final Best best;
    private final byte[] written;
    private int writtenSize;
    private int castTosses;

    public BentPenny() {
        tape = new byte[TAPE_MOST];
        tokens = new Tokens(tape);
        now = new State();
        draft = new State();
        images = new State[IMAGES];
        for (int k = 0; k < images.length; k++) {
            images[k] = new State();
        }
        odds = new Odds();
        fraction = new Fraction();
        judge = new Judge();
        row = new byte[ROW_MOST];
        bits = new Bits();
        shares = new Shares();
        runsChance = new Fraction();
        best = new Best();
        written = new byte[WAY_MOST];
        castTosses = NONE;
    }

    // ---- the tape ----

    public int feed(int a, int b, int c, int d, int e) {
        if (tapeSize > TAPE_MOST - 20) {
            return NONE;
        }
        feedNumber(a);
        feedNumber(b);
        feedNumber(c);
        feedNumber(d);
        feedNumber(e);
        return tapeSize;
    }

    private void feedNumber(int number) {
        for (int shift = 24; shift >= 0; shift -= 8) {
            if (isWithin(tapeSize, tape.length)) {
                tape[tapeSize] = (byte) (number >>> shift);
                tapeSize++;
            }
        }
    }

    public boolean end(int n) {
        if (n < 0 || n > tapeSize) {
            return false;
        }
        tapeSize = n;
        return true;
    }

    private int takeTape() {
        int size = tapeSize;
        tapeSize = 0;
        return size;
    }

    /** The tape's ROW comes into row, 1 for h, 0 for t; NONE, if it is not as told. */
    private int takeRow(int least, int most) {
        int size = takeTape();
        if (size < least || size > most) {
            return NONE;
        }
        for (int i = 0; i < size && i < tape.length && i < row.length; i++) {
            if (tape[i] != 'h' && tape[i] != 't') {
                return NONE;
            }
            row[i] = (byte) (tape[i] == 'h' ? 1 : 0);
        }
        return size;
    }

    // ---- the TABLE ----

    public int table() {
        tokens.begin(takeTape(), TABLE_MOST);
        boolean fine = draft.table.read(tokens);
        latestFault = tokens.fault;
        if (!fine) {
            return -1 - tokens.faultPlace;
        }
        tablesRead++;
        draft.table.number = tablesRead;
        now.table.copyFrom(draft.table);
        now.way.clear();
        now.sentence.clear();
        return now.table.things + now.table.ends;
    }

    public int fault() {
        return latestFault;
    }

    public int thing(int t, int what) throws NoSuchElementException {
        if (!now.table.hasThing(t) || !isWithin(what, 3)) {
            throw new NoSuchElementException();
        }
        if (what == 0) {
            return now.table.sidesOf(t);
        }
        if (what == 1) {
            return now.table.allParts(t);
        }
        return t == now.table.open ? 1 : 0;
    }

    public int side(int t, int side) {
        return isWithin(side, now.table.sidesOf(t)) ? now.table.partsOf(t, side) : NONE;
    }

    public int share(int end, int what) {
        if (!now.table.hasShare(end) || !isWithin(what, 2)) {
            return NONE;
        }
        return what == 0 ? now.table.shareAbove(end) : now.table.shareBelow(end);
    }

    // ---- the WAY ----

    public int way() {
        tokens.begin(takeTape(), WAY_MOST);
        boolean fine = draft.way.read(tokens, now.table);
        latestFault = tokens.fault;
        if (!fine) {
            return -1 - tokens.faultPlace;
        }
        now.way.copyFrom(draft.way);
        return now.way.nodes;
    }

    public int node(int k) {
        return now.way.sortAt(k);
    }

    public int nodeOf(int k) {
        return now.way.whichAt(k);
    }

    public int next(int k, int side) {
        return now.way.nextAt(k, side);
    }

    public int deep() {
        return now.way.deepest;
    }

    // ---- chances ----

    public long chance(int end, int what) throws NoSuchElementException {
        boolean open = now.way.hasThing(now.table.open);
        if (open || !now.table.hasEnd(end) || !spreadBy(0, 1, what)) {
            throw new NoSuchElementException();
        }
        return told(odds.endWeight(end), odds.all - odds.again, what);
    }

    public long chanceAt(int end, int k, int m, int what) throws NoSuchElementException {
        if (!now.table.hasEnd(end) || !spreadBy(k, m, what)) {
            throw new NoSuchElementException();
        }
        return told(odds.endWeight(end), odds.all - odds.again, what);
    }

    public long mean(int k, int m, int what) throws NoSuchElementException {
        if (!spreadBy(k, m, what)) {
            throw new NoSuchElementException();
        }
        return told(odds.tosses, odds.all - odds.again, what);
    }

    private long told(long above, long below, int what) {
        fraction.put(above, below);
        return fraction.part(what);
    }

    /** Spreads the WAY by a bend of k by m: true; false, if there is none such, or it NEVER ENDS. */
    private boolean spreadBy(int k, int m, int what) {
        if (m < 1 || m > 9 || k < 0 || k > m || !isWithin(what, 2) || !now.way.isTold()) {
            return false;
        }
        odds.spread(now.table, now.way, k, m - k, m);
        return odds.all > odds.again;
    }

    public long poly(int end, int i, int what) throws NoSuchElementException {
        boolean known = end == NONE || now.table.hasEnd(end);
        if (!known || !isWithin(i, DEEP + 1) || !isWithin(what, 2) || !now.way.isTold()) {
            throw new NoSuchElementException();
        }
        odds.tellPolynomials(now.table, now.way);
        return told(odds.powerOf(end == NONE ? ENDS : end, i), odds.all, what);
    }

    public int like(int a, int b) {
        if (!now.table.hasEnd(a) || !now.table.hasEnd(b) || !now.way.isTold()) {
            return NONE;
        }
        odds.tellPolynomials(now.table, now.way);
        return odds.areLike(a, b) ? 1 : 0;
    }

    public int even() {
        if (!now.way.isTold() || now.table.ends == 0) {
            return NONE;
        }
        odds.tellPolynomials(now.table, now.way);
        for (int end = 0; end < now.table.ends; end++) {
            if (!odds.comes(end) || !odds.areLike(0, end)) {
                return 0;
            }
        }
        return 1;
    }

    // ---- evenings ----

    public int evening() {
        int size = takeTape();
        if (!now.way.isTold()) {
            return NO_WAY;
        }
        tokens.begin(size, EVENING_MOST);
        boolean fine = judge.read(tokens, now.table, now.way);
        latestFault = tokens.fault;
        if (!fine) {
            return -2 - tokens.faultPlace;
        }
        judge.keep(now.way);
        return judge.wrongLine;
    }

    public int judged(int what) {
        return judge.keptAt(what);
    }

    // ---- even choices out of bent throws ----

    public int pairs() {
        int size = takeRow(0, ROW_MOST);
        return size == NONE ? NONE : bits.byPairs(row, size);
    }

    public int spared() {
        int size = takeRow(0, ROW_MOST);
        return size == NONE ? NONE : bits.bySparing(row, size);
    }

    public int pasts() {
        int size = takeRow(0, ROW_MOST);
        return size == NONE ? NONE : bits.byPasts(row, size);
    }

    public int counted() {
        int size = takeRow(1, Bits.COUNTED_MOST);
        return size == NONE ? NONE : bits.byCounting(row, size);
    }

    public int bit(int i) {
        return bits.at(i);
    }

    public long countedMean(int n, int k, int m, int what) throws NoSuchElementException {
        boolean fine = n >= 1 && n <= Bits.COUNTED_MOST && m >= 2 && m <= 9 && k >= 0 && k <= m;
        if (!fine || !isWithin(what, 2)) {
            throw new NoSuchElementException();
        }
        return told(Bits.countedSum(n, k, m - k), Fraction.power(m, n), what);
    }

    // ---- shares by honest throws ----

    public int shared() {
        int size = takeRow(0, ROW_MOST);
        if (size == NONE || !Shares.areTold(now.table)) {
            return NOT_AS_TOLD;
        }
        return shares.shareOut(now.table, row, size);
    }

    public int took() {
        return shares.latestTook;
    }

    public long fewest(int what) throws NoSuchElementException {
        if (!Shares.areTold(now.table) || !isWithin(what, 2)) {
            throw new NoSuchElementException();
        }
        Shares.tellFewest(now.table, fraction);
        return fraction.part(what);
    }

    public int nearest(int n, int e) {
        if (!isWithin(n, 21) || !now.table.hasEnd(e) || !Shares.areTold(now.table)) {
            return NONE;
        }
        return Shares.nearestRows(now.table, n, e);
    }

    public long off(int n, int what) throws NoSuchElementException {
        if (!isWithin(n, 21) || !isWithin(what, 2) || !Shares.areTold(now.table)) {
            throw new NoSuchElementException();
        }
        Shares.tellOff(now.table, n, fraction);
        return fraction.part(what);
    }

    // ---- several THINGS, luck, RUNS ----

    public long mixed(int set, int rest, int what) throws NoSuchElementException {
        int sides = now.table.sidesAlike(set);
        if (!isWithin(rest, sides) || !isWithin(what, 2)) {
            throw new NoSuchElementException();
        }
        odds.mix(now.table, set, sides);
        return told(odds.restWeight(rest), odds.all, what);
    }

    public long luck(int n, int k, int what) throws NoSuchElementException {
        if (n < 1 || n > 60 || k < 0 || k > n || !isWithin(what, 2)) {
            throw new NoSuchElementException();
        }
        int far = Math.abs(2 * k - n);
        long rows = 0;
        for (int heads = 0; heads <= n; heads++) {
            if (Math.abs(2 * heads - n) >= far) {
                rows += Fraction.choices(n, heads);
            }
        }
        return told(rows, 1L << n, what);
    }

    public int runs() {
        int size = takeRow(1, 60);
        if (size == NONE) {
            return NONE;
        }
        int heads = 0;
        int runs = 0;
        for (int i = 0; i < size && i < row.length; i++) {
            heads += row[i];
            if (i == 0 || row[i] != row[i - 1]) {
                runs++;
            }
        }
        long seldomRows = 0;
        for (int fewer = 1; fewer <= runs; fewer++) {
            seldomRows += rowsOfRuns(heads, size - heads, fewer);
        }
        runsChance.put(seldomRows, Fraction.choices(size, heads));
        return runs;
    }

    private static long rowsOfRuns(int heads, int tails, int runs) {
        int less = runs / 2;
        int more = runs - less;
        return cuts(heads, less) * cuts(tails, more) + cuts(heads, more) * cuts(tails, less);
    }

    /** In how many ways so many throws fall into so many RUNS of one throw at least. */
    private static long cuts(int throwsOfIt, int runs) {
        if (runs == 0) {
            return throwsOfIt == 0 ? 1 : 0;
        }
        return Fraction.choices(throwsOfIt - 1, runs - 1);
    }

    public long seldom(int what) throws NoSuchElementException {
        if (!runsChance.told || !isWithin(what, 2)) {
            throw new NoSuchElementException();
        }
        return runsChance.part(what);
    }

    // ---- the best of small WAYS ----

    public int best() {
        return best.search(now.table);
    }

    public long bestMean(int what) throws NoSuchElementException {
        if (!best.mean.told || !isWithin(what, 2)) {
            throw new NoSuchElementException();
        }
        return best.mean.part(what);
    }

    public boolean take() {
        if (!best.mean.told || best.tableNumber != now.table.number) {
            return false;
        }
        best.build(now.way);
        return true;
    }

    // ---- the WAY as a text, and CASTS by it ----

    public int write() {
        if (!now.way.isTold()) {
            return NONE;
        }
        writtenSize = now.way.tellInto(written, now.table);
        return writtenSize;
    }

    public int byteAt(int i) {
        return isWithin(i, writtenSize) && i < written.length ? written[i] : NONE;
    }

    public int cast(int n, int seed) {
        if (n < 1 || n > CAST_MOST || !canCast()) {
            return NOT_AS_TOLD;
        }
        return castOnce(n, seed);
    }

    public int tosses() {
        return castTosses;
    }

    public int casts(int n, int seed, int end) {
        if (n < 1 || n > 200 || !now.table.hasEnd(end) || !canCast()) {
            return NONE;
        }
        int tossesOfCast = castTosses;
        int came = 0;
        for (int i = 0; i < n; i++) {
            if (castOnce(CAST_MOST, seed + i) == end) {
                came++;
            }
        }
        castTosses = tossesOfCast;
        return came;
    }

    private boolean canCast() {
        return now.way.isTold() && !now.way.hasThing(now.table.open);
    }

    private int castOnce(int most, int seed) {
        int x = seed;
        int at = 0;
        castTosses = 0;
        while (castTosses < most && now.way.sortAt(at) == SORT_THING) {
            int t = now.way.whichAt(at);
            x = x * 1103515245 + 12345;
            at = now.way.landing(at, now.table.sideOfDraw(t, x >>> 8));
            castTosses++;
        }
        return now.way.endAt(at);
    }

    // ---- SENTENCES ----

    public int sentence() {
        tokens.begin(takeTape(), SENTENCE_MOST);
        boolean fine = draft.sentence.read(tokens, now.table);
        latestFault = tokens.fault;
        if (!fine) {
            return -1 - tokens.faultPlace;
        }
        now.sentence.copyFrom(draft.sentence);
        return now.sentence.ones;
    }

    public int said(int k) {
        if (k < NONE || !now.sentence.isTold() || !now.way.isTold()) {
            return NONE;
        }
        odds.tellPolynomials(now.table, now.way);
        int many = 0;
        for (int end = 0; end < now.table.ends; end++) {
            if (now.sentence.holdsFor(end, now.table, now.way, odds)) {
                if (many == k) {
                    return end;
                }
                many++;
            }
        }
        return k == NONE ? many : NONE;
    }

    // ---- images ----

    public boolean image(int k) {
        State image = imageAt(k);
        if (image == null) {
            return false;
        }
        image.copyFrom(now);
        image.kept = true;
        return true;
    }

    public boolean restore(int k) {
        State image = imageAt(k);
        if (image == null || !image.kept) {
            return false;
        }
        now.copyFrom(image);
        return true;
    }

    private State imageAt(int k) {
        return isWithin(k, images.length) ? images[k] : null;
    }

    public int count(int what) {
        switch (what) {
            case 0:
                return now.table.things;
            case 1:
                return now.table.ends;
            case 2:
                return now.way.nodes;
            case 3:
                return now.table.open;
            case 4:
                return tapeSize;
            default:
                return NONE;
        }
    }

    private static boolean isWithin(int i, int size) {
        return i >= 0 && i < size;
    }

    /** The TOKENS of a text, the one that is read now, and the first FAULT. */
    private static final class Tokens {
        private static final int OUT = 0;
        private static final int CUT = 1;
        private static final int BAD = 2;
        private static final int TOLD_WORD = 3;
        private static final int NAME = 4;
        private static final int NUMBER = 5;
        private static final int SIGN = 6;
        private static final int LETTERS_MOST = 6;
        private static final int DIGITS_MOST = 3;
        private static final String TOLD_WORDS =
                "coin open wheel end again so or and not like comes shares place knots ";
        // "again" as pack has it, so that it is written as NAMES are
        private static final int AGAIN = (((1 * 32 + 7) * 32 + 1) * 32 + 9) * 32 + 14;

        private final byte[] text;
        private final int[] sorts;
        private final int[] values;
        private final int[] places;
        private int many;
        private int at;
        private int sort;
        private int value;
        private int place;
        private int fault;
        private int faultPlace;

        private Tokens(byte[] text) {
            this.text = text;
            sorts = new int[TAPE_MOST + 1];
            values = new int[TAPE_MOST + 1];
            places = new int[TAPE_MOST + 1];
        }

        private void begin(int size, int most) {
            many = 0;
            fault = 0;
            faultPlace = 0;
            int behind = 0;
            for (int i = 0; i < TAPE_MOST && behind < size && behind < most; i++) {
                behind = readToken(behind, size);
            }
            add(size > most ? CUT : OUT, 0, Math.min(size, most));
            at = -1;
            step();
        }

        private void add(int newSort, int newValue, int newPlace) {
            if (isWithin(many, sorts.length)) {
                sorts[many] = newSort;
                values[many] = newValue;
                places[many] = newPlace;
                many++;
            }
        }

        /** Reads a blank or a TOKEN; the place behind it. */
        private int readToken(int from, int size) {
            int c = isWithin(from, text.length) ? text[from] : ' ';
            if (isLetter(c) || isDigit(c)) {
                return readRun(from, size);
            }
            if (c != ' ' && c != '\n') {
                add(isSign(c) ? SIGN : BAD, c, from);
            }
            return from + 1;
        }

        /** Reads a run whole, also past the most bytes told: so the document has it. */
        private int readRun(int from, int size) {
            int letters = 0;
            int digits = 0;
            int word = 0;
            int number = 0;
            int behind = from;
            while (behind < size && behind < text.length) {
                int c = text[behind];
                if (isLetter(c)) {
                    letters++;
                    word = pack(word, c);
                } else if (isDigit(c)) {
                    digits++;
                    number = number * 10 + c - '0';
                } else {
                    break;
                }
                behind++;
            }
            if (digits == 0 && letters <= LETTERS_MOST) {
                add(isToldWord(word) ? TOLD_WORD : NAME, word, from);
            } else if (letters == 0 && digits <= DIGITS_MOST) {
                add(NUMBER, number, from);
            } else {
                add(BAD, 0, from);
            }
            return behind;
        }

        private static boolean isLetter(int c) {
            return c >= 'a' && c <= 'z';
        }

        private static boolean isDigit(int c) {
            return c >= '0' && c <= '9';
        }

        private static boolean isSign(int c) {
            return c == ';' || c == ':' || c == '(' || c == ')' || c == '<' || c == '=' || c == '>';
        }

        /** Six letters of five bits each: a WORD is one number, so NAMES need no texts. */
        private static int pack(int word, int letter) {
            return word * 32 + letter - 'a' + 1;
        }

        private static boolean isToldWord(int word) {
            int told = 0;
            for (int i = 0; i < TOLD_WORDS.length(); i++) {
                if (TOLD_WORDS.charAt(i) != ' ') {
                    told = pack(told, TOLD_WORDS.charAt(i));
                } else if (told == word) {
                    return true;
                } else {
                    told = 0;
                }
            }
            return false;
        }

        private void step() {
            if (isWithin(at + 1, many) && at + 1 < sorts.length) {
                at++;
                sort = sorts[at];
                value = values[at];
                place = places[at];
            }
        }

        private boolean is(String word) {
            int packed = 0;
            for (int i = 0; i < word.length(); i++) {
                packed = pack(packed, word.charAt(i));
            }
            return sort == TOLD_WORD && value == packed;
        }

        private boolean isName() {
            return sort == NAME;
        }

        private boolean isNumber() {
            return sort == NUMBER;
        }

        private boolean isSigned(char sign) {
            return sort == SIGN && value == sign;
        }

        private boolean isOut() {
            return sort == OUT || sort == CUT;
        }

        /** Notes a FAULT at the TOKEN that is read; false, for the reader to hand on. */
        private boolean fail(int kind) {
            if (fault == 0) {
                fault = kind;
                faultPlace = place;
            }
            return false;
        }

        private boolean pass(char sign) {
            if (!isSigned(sign)) {
                return fail(CANT_COME);
            }
            step();
            return true;
        }

        /** Whether a NUMBER as told is read now; it stays the TOKEN. */
        private boolean holdsNumber(int least, int greatest) {
            if (sort != NUMBER) {
                return fail(CANT_COME);
            }
            return value >= least && value <= greatest || fail(BAD_NUMBER);
        }

        private boolean isDone() {
            return sort == OUT || fail(CANT_COME);
        }
    }

    /** THINGS and ENDS with their NAMES, parts and shares. */
    private static final class Table {
        private int number;
        private int things;
        private int ends;
        private int open;
        private final int[] thingName;
        private final boolean[] coin;
        private final int[] sides;
        private final int[] all;
        private final int[] parts;
        private final int[] endName;
        private final int[] above;
        private final int[] below;

        private Table() {
            thingName = new int[THINGS];
            coin = new boolean[THINGS];
            sides = new int[THINGS];
            all = new int[THINGS];
            parts = new int[THINGS * SIDES];
            endName = new int[ENDS];
            above = new int[ENDS];
            below = new int[ENDS];
            open = NONE;
        }

        private void copyFrom(Table other) {
            number = other.number;
            things = other.things;
            ends = other.ends;
            open = other.open;
            for (int t = 0; t < THINGS; t++) {
                thingName[t] = other.thingName[t];
                coin[t] = other.coin[t];
                sides[t] = other.sides[t];
                all[t] = other.all[t];
            }
            for (int i = 0; i < THINGS * SIDES; i++) {
                parts[i] = other.parts[i];
            }
            for (int e = 0; e < ENDS; e++) {
                endName[e] = other.endName[e];
                above[e] = other.above[e];
                below[e] = other.below[e];
            }
        }

        private boolean hasThing(int t) {
            return t >= 0 && t < things && t < THINGS;
        }

        private boolean hasEnd(int e) {
            return e >= 0 && e < ends && e < ENDS;
        }

        private boolean hasShare(int e) {
            return hasEnd(e) && below[e] > 0;
        }

        private int shareAbove(int e) {
            return hasEnd(e) ? above[e] : 0;
        }

        private int shareBelow(int e) {
            return hasEnd(e) ? below[e] : 0;
        }

        private int sidesOf(int t) {
            return hasThing(t) ? sides[t] : 0;
        }

        private int allParts(int t) {
            return hasThing(t) ? all[t] : 0;
        }

        private int partsOf(int t, int side) {
            return hasThing(t) && isWithin(side, SIDES) ? parts[t * SIDES + side] : 0;
        }

        private boolean isClosedCoin(int t) {
            return hasThing(t) && coin[t] && t != open;
        }

        private int nameOfThing(int t) {
            return hasThing(t) ? thingName[t] : 0;
        }

        private int nameOfEnd(int e) {
            return hasEnd(e) ? endName[e] : 0;
        }

        private int thingNamed(int name) {
            for (int t = 0; t < things && t < THINGS; t++) {
                if (thingName[t] == name) {
                    return t;
                }
            }
            return NONE;
        }

        private int endNamed(int name) {
            for (int e = 0; e < ends && e < ENDS; e++) {
                if (endName[e] == name) {
                    return e;
                }
            }
            return NONE;
        }

        private int sideOfDraw(int t, int drawn) {
            int whole = allParts(t);
            if (whole < 1) {
                return 0;
            }
            int left = drawn % whole;
            int side = 0;
            while (side < SIDES - 1 && left >= partsOf(t, side)) {
                left -= partsOf(t, side);
                side++;
            }
            return side;
        }

        /** The SIDES that all THINGS of a set have; 0, if there is none such, one is open, or they are unlike. */
        private int sidesAlike(int set) {
            if (set < 1 || set >= 1 << things) {
                return 0;
            }
            int alike = 0;
            for (int t = 0; t < things; t++) {
                if ((set >> t & 1) == 1) {
                    if (t == open || alike != 0 && alike != sidesOf(t)) {
                        return 0;
                    }
                    alike = sidesOf(t);
                }
            }
            return alike;
        }

        private boolean read(Tokens text) {
            things = 0;
            ends = 0;
            open = NONE;
            for (int line = 0; line < TABLE_MOST && !text.isOut(); line++) {
                if (!readLine(text)) {
                    return false;
                }
            }
            return text.isDone();
        }

        private boolean readLine(Tokens text) {
            if (text.is("coin")) {
                return readCoin(text);
            }
            if (text.is("wheel")) {
                return readWheel(text);
            }
            if (text.is("end")) {
                return readEnd(text);
            }
            return text.fail(CANT_COME);
        }

        private boolean readName(Tokens text, int[] names, int at) {
            if (!isWithin(at, names.length)) {
                return text.fail(TOO_MANY);
            }
            text.step();
            if (!text.isName()) {
                return text.fail(CANT_COME);
            }
            if (thingNamed(text.value) != NONE || endNamed(text.value) != NONE) {
                return text.fail(BAD_NAME);
            }
            names[at] = text.value;
            text.step();
            return true;
        }

        private boolean readCoin(Tokens text) {
            if (!readName(text, thingName, things)) {
                return false;
            }
            if (text.is("open")) {
                if (open != NONE) {
                    return text.fail(BAD_NAME);
                }
                open = things;
                text.step();
                addCoin(0, 0);
                return text.pass(';');
            }
            if (!text.holdsNumber(0, 9)) {
                return false;
            }
            int head = text.value;
            text.step();
            if (!text.holdsNumber(Math.max(2, head), 9)) {
                return false;
            }
            addCoin(head, text.value);
            text.step();
            return text.pass(';');
        }

        private void addCoin(int head, int whole) {
            if (isWithin(things, THINGS)) {
                coin[things] = true;
                sides[things] = 2;
                all[things] = whole;
                parts[things * SIDES] = head;
                parts[things * SIDES + 1] = whole - head;
                things++;
            }
        }

        private boolean readWheel(Tokens text) {
            if (!readName(text, thingName, things) || !isWithin(things, THINGS)) {
                return false;
            }
            int many = 0;
            int sum = 0;
            while (many <= SIDES && (many < 2 || text.isNumber())) {
                if (!text.holdsNumber(1, 9 - sum)) {
                    return false;
                }
                if (many >= SIDES) {
                    return text.fail(TOO_MANY);
                }
                parts[things * SIDES + many] = text.value;
                sum += text.value;
                many++;
                text.step();
            }
            coin[things] = false;
            sides[things] = many;
            all[things] = sum;
            things++;
            return text.pass(';');
        }

        private boolean readEnd(Tokens text) {
            if (!readName(text, endName, ends) || !isWithin(ends, ENDS)) {
                return false;
            }
            above[ends] = 0;
            below[ends] = 0;
            if (!text.isSigned(';')) {
                if (!text.holdsNumber(0, 20)) {
                    return false;
                }
                int k = text.value;
                text.step();
                if (!text.holdsNumber(Math.max(1, k), 20)) {
                    return false;
                }
                above[ends] = k;
                below[ends] = text.value;
                text.step();
            }
            ends++;
            return text.pass(';');
        }
    }

    /** A tree of throws; its NODES stand as they are told, so each behind the THING that leads to it. */
    private static final class Way {
        private int nodes;
        private int deepest;
        private final int[] sort;
        private final int[] which;
        private final int[] parent;
        private final int[] onSide;
        private final int[] next;

        private Way() {
            sort = new int[NODES];
            which = new int[NODES];
            parent = new int[NODES];
            onSide = new int[NODES];
            next = new int[NODES * SIDES];
        }

        private void clear() {
            nodes = 0;
            deepest = 0;
        }

        private void copyFrom(Way other) {
            nodes = other.nodes;
            deepest = other.deepest;
            for (int k = 0; k < NODES; k++) {
                sort[k] = other.sort[k];
                which[k] = other.which[k];
                parent[k] = other.parent[k];
                onSide[k] = other.onSide[k];
            }
            for (int i = 0; i < NODES * SIDES; i++) {
                next[i] = other.next[i];
            }
        }

        private boolean isTold() {
            return nodes > 0;
        }

        private boolean hasNode(int k) {
            return k >= 0 && k < nodes && k < NODES;
        }

        private int sortAt(int k) {
            return hasNode(k) ? sort[k] : NONE;
        }

        private int whichAt(int k) {
            return hasNode(k) ? which[k] : NONE;
        }

        private int parentOf(int k) {
            return hasNode(k) ? parent[k] : NONE;
        }

        private int sideTo(int k) {
            return hasNode(k) ? onSide[k] : NONE;
        }

        private int nextAt(int k, int side) {
            return hasNode(k) && isWithin(side, SIDES) ? next[k * SIDES + side] : NONE;
        }

        /** Where a throw at NODE k leads: AGAIN is left for the first NODE at once. */
        private int landing(int k, int side) {
            int to = nextAt(k, side);
            return sortAt(to) == SORT_AGAIN ? 0 : to;
        }

        private int endAt(int k) {
            return sortAt(k) == SORT_END ? whichAt(k) : NONE;
        }

        private boolean hasThing(int t) {
            for (int k = 0; k < nodes; k++) {
                if (sortAt(k) == SORT_THING && whichAt(k) == t) {
                    return true;
                }
            }
            return false;
        }

        private int knotsOf(int end) {
            int knots = 0;
            for (int k = 0; k < nodes; k++) {
                if (endAt(k) == end) {
                    knots++;
                }
            }
            return knots;
        }

        /** Puts a NODE behind the others; its number, or NONE if there is no room. */
        private int add(int newSort, int newWhich, int from, int side) {
            int k = nodes;
            if (!isWithin(k, NODES)) {
                return NONE;
            }
            nodes++;
            sort[k] = newSort;
            which[k] = newWhich;
            parent[k] = from;
            onSide[k] = side;
            for (int s = 0; s < SIDES; s++) {
                next[k * SIDES + s] = NONE;
            }
            if (hasNode(from) && isWithin(side, SIDES)) {
                next[from * SIDES + side] = k;
            }
            return k;
        }

        /** How many bytes the text of the WAY has; no brackets are kept, so they are found by the SIDES. */
        private int tellInto(byte[] text, Table table) {
            int size = 0;
            for (int k = 0; k < nodes && k < NODES; k++) {
                if (k > 0) {
                    size = put(text, size, onSide[k] == 0 ? '(' : ':');
                }
                if (sort[k] == SORT_AGAIN) {
                    size = putName(text, size, Tokens.AGAIN);
                } else if (sort[k] == SORT_END) {
                    size = putName(text, size, table.nameOfEnd(which[k]));
                } else {
                    size = putName(text, size, table.nameOfThing(which[k]));
                }
                if (sort[k] != SORT_THING) {
                    size = putClosings(text, size, table, k);
                }
            }
            return size;
        }

        private static int put(byte[] text, int size, int sign) {
            if (!isWithin(size, text.length)) {
                return size;
            }
            text[size] = (byte) sign;
            return size + 1;
        }

        private static int putName(byte[] text, int size, int name) {
            int behind = size;
            for (int shift = 25; shift >= 0; shift -= 5) {
                int letter = name >> shift & 31;
                if (letter != 0) {
                    behind = put(text, behind, 'a' - 1 + letter);
                }
            }
            return behind;
        }

        /** Closes the THINGS of which this NODE is the last, from the inmost on. */
        private int putClosings(byte[] text, int size, Table table, int k) {
            int behind = size;
            int at = k;
            for (int up = 0; up < DEEP; up++) {
                int from = parentOf(at);
                if (from == NONE || sideTo(at) != table.sidesOf(whichAt(from)) - 1) {
                    return behind;
                }
                behind = put(text, behind, ')');
                at = from;
            }
            return behind;
        }

        private boolean read(Tokens text, Table table) {
            clear();
            return readNode(text, table, 0, NONE, 0) && text.isDone();
        }

        /** Reads a NODE that lies within so many (depth) THINGS. */
        private boolean readNode(Tokens text, Table table, int depth, int from, int side) {
            boolean again = text.is("again");
            if (!again && !text.isName()) {
                return text.fail(CANT_COME);
            }
            int end = again ? NONE : table.endNamed(text.value);
            int thing = again ? NONE : table.thingNamed(text.value);
            if (!again && end == NONE && thing == NONE) {
                return text.fail(BAD_NAME);
            }
            if (nodes >= NODES || thing != NONE && depth >= DEEP) {
                return text.fail(TOO_MANY);
            }
            text.step();
            if (thing == NONE) {
                add(again ? SORT_AGAIN : SORT_END, end, from, side);
                return true;
            }
            deepest = Math.max(deepest, depth + 1);
            int k = add(SORT_THING, thing, from, side);
            return text.pass('(') && readSides(text, table, depth + 1, k, table.sidesOf(thing));
        }

        private boolean readSides(Tokens text, Table table, int depth, int k, int sides) {
            for (int side = 0; side < sides; side++) {
                if (!readNode(text, table, depth, k, side)) {
                    return false;
                }
                if (!text.isSigned(':') && !text.isSigned(')')) {
                    return text.fail(CANT_COME);
                }
                if (text.isSigned(':') == (side == sides - 1)) {
                    return text.fail(OTHER_SIDES);
                }
                text.step();
            }
            return true;
        }
    }

    /** A condition on ENDS, as steps that work on a pile of facts (so brackets need none). */
    private static final class Sentence {
        private static final int ONES = 20;
        private static final int WITHIN = 8;
        private static final int STEPS = 2 * ONES;
        private static final int NOT = 0;
        private static final int AND = 1;
        private static final int OR = 2;
        private static final int LIKE = 3;
        private static final int COMES = 4;
        private static final int SHARES = 5;
        private static final int PLACE = 6;
        private static final int KNOTS = 7;

        private int ones;
        private int steps;
        private final int[] kind;
        private final int[] sign;
        private final int[] number;

        private Sentence() {
            kind = new int[STEPS];
            sign = new int[STEPS];
            number = new int[STEPS];
        }

        private void clear() {
            ones = 0;
            steps = 0;
        }

        private void copyFrom(Sentence other) {
            ones = other.ones;
            steps = other.steps;
            for (int i = 0; i < STEPS; i++) {
                kind[i] = other.kind[i];
                sign[i] = other.sign[i];
                number[i] = other.number[i];
            }
        }

        private boolean isTold() {
            return ones > 0;
        }

        private boolean add(int newKind, int newSign, int newNumber) {
            if (!isWithin(steps, STEPS)) {
                return false;
            }
            kind[steps] = newKind;
            sign[steps] = newSign;
            number[steps] = newNumber;
            steps++;
            return true;
        }

        private boolean read(Tokens text, Table table) {
            clear();
            return readCondition(text, table, 1) && text.isDone();
        }

        private boolean readCondition(Tokens text, Table table, int depth) {
            if (!readAll(text, table, depth)) {
                return false;
            }
            for (int more = 0; more < ONES && text.is("or"); more++) {
                text.step();
                if (!readAll(text, table, depth) || !add(OR, 0, 0)) {
                    return false;
                }
            }
            return true;
        }

        private boolean readAll(Tokens text, Table table, int depth) {
            if (!readOne(text, table, depth)) {
                return false;
            }
            for (int more = 0; more < ONES && text.is("and"); more++) {
                text.step();
                if (!readOne(text, table, depth) || !add(AND, 0, 0)) {
                    return false;
                }
            }
            return true;
        }

        /** Reads a ONE that is the depth-th within one another. */
        private boolean readOne(Tokens text, Table table, int depth) {
            boolean not = text.is("not");
            boolean bracket = text.isSigned('(');
            boolean sized = text.is("place") || text.is("knots");
            boolean plain = text.is("comes") || text.is("shares");
            if (!not && !bracket && !sized && !plain && !text.is("like")) {
                return text.fail(CANT_COME);
            }
            if (ones >= ONES || depth > WITHIN) {
                return text.fail(TOO_MANY);
            }
            ones++;
            if (sized) {
                return readSized(text);
            }
            if (plain) {
                int fact = text.is("comes") ? COMES : SHARES;
                text.step();
                return add(fact, 0, 0);
            }
            text.step();
            if (not) {
                return readOne(text, table, depth + 1) && add(NOT, 0, 0);
            }
            if (bracket) {
                return readCondition(text, table, depth + 1) && text.pass(')');
            }
            return readLike(text, table);
        }

        private boolean readSized(Tokens text) {
            int fact = text.is("place") ? PLACE : KNOTS;
            text.step();
            if (!text.isSigned('<') && !text.isSigned('=') && !text.isSigned('>')) {
                return text.fail(CANT_COME);
            }
            int comparing = text.value;
            text.step();
            if (!text.isNumber()) {
                return text.fail(CANT_COME);
            }
            int than = text.value;
            text.step();
            return add(fact, comparing, than);
        }

        private boolean readLike(Tokens text, Table table) {
            if (!text.isName()) {
                return text.fail(CANT_COME);
            }
            int end = table.endNamed(text.value);
            if (end == NONE) {
                return text.fail(BAD_NAME);
            }
            text.step();
            return add(LIKE, 0, end);
        }

        /** The pile is the bits of a number, its top the lowest: twenty facts at most lie on it. */
        private boolean holdsFor(int end, Table table, Way way, Odds odds) {
            int pile = 0;
            for (int i = 0; i < steps && i < STEPS; i++) {
                int top = pile & 1;
                if (kind[i] == NOT) {
                    pile ^= 1;
                } else if (kind[i] == OR) {
                    pile = pile >>> 1 | top;
                } else if (kind[i] == AND) {
                    pile = pile >>> 1 & (~1 | top);
                } else {
                    pile = pile << 1 | (isFact(i, end, table, way, odds) ? 1 : 0);
                }
            }
            return (pile & 1) == 1;
        }

        private boolean isFact(int i, int end, Table table, Way way, Odds odds) {
            if (!isWithin(i, STEPS)) {
                return false;
            }
            switch (kind[i]) {
                case LIKE:
                    return odds.areLike(end, number[i]);
                case COMES:
                    return odds.comes(end);
                case SHARES:
                    return table.hasShare(end);
                case PLACE:
                    return isSized(end, sign[i], number[i]);
                default:
                    return isSized(way.knotsOf(end), sign[i], number[i]);
            }
        }

        private static boolean isSized(int size, int comparing, int than) {
            if (comparing == '<') {
                return size < than;
            }
            return comparing == '=' ? size == than : size > than;
        }
    }

    /** What an image keeps. */
    private static final class State {
        private final Table table;
        private final Way way;
        private final Sentence sentence;
        private boolean kept;

        private State() {
            table = new Table();
            way = new Way();
            sentence = new Sentence();
        }

        private void copyFrom(State other) {
            table.copyFrom(other.table);
            way.copyFrom(other.way);
            sentence.copyFrom(other.sentence);
        }
    }

    /** A fraction in least terms, and what whole numbers it takes to come by one. */
    private static final class Fraction {
        private boolean told;
        private long above;
        private long below;

        private Fraction() {
            below = 1;
        }

        /** False, and it stays, if below is not 1 or more. */
        private boolean put(long newAbove, long newBelow) {
            if (newBelow < 1) {
                return false;
            }
            long divisor = common(Math.abs(newAbove), newBelow);
            if (divisor < 1) {
                return false;
            }
            above = newAbove / divisor;
            below = newBelow / divisor;
            told = true;
            return true;
        }

        private long part(int what) {
            return what == 0 ? above : below;
        }

        private static long common(long a, long b) {
            long greater = a;
            long less = b;
            for (int i = 0; i < 200 && less > 0; i++) {
                long rest = greater % less;
                greater = less;
                less = rest;
            }
            return greater;
        }

        private static long power(long base, int times) {
            long product = 1;
            for (int i = 0; i < times; i++) {
                product *= base;
            }
            return product;
        }

        /** How many ways there are to choose some of n: each step divides evenly, and n is 60 at most. */
        private static long choices(int n, int some) {
            if (some < 0 || some > n) {
                return 0;
            }
            long ways = 1;
            for (int i = 0; i < some; i++) {
                ways = ways * (n - i) / (i + 1);
            }
            return ways;
        }
    }

    /** How likely NODES, ENDS and rests are, in whole weights out of all. */
    private static final class Odds {
        private final long[] weight;
        private final int[] heads;
        private final int[] tails;
        private final long[] ends;
        private final long[] powers;
        private final long[] rests;
        private final long[] restsBefore;
        private long all;
        private long again;
        private long tosses;
        private int openHead;
        private int openTail;
        private int openAll;

        private Odds() {
            weight = new long[NODES];
            heads = new int[NODES];
            tails = new int[NODES];
            ends = new long[ENDS];
            powers = new long[(ENDS + 1) * (DEEP + 1)];
            rests = new long[SIDES];
            restsBefore = new long[SIDES];
            all = 1;
        }

        /**
         * Weighs a ROUND. No THING is thrown more than DEEP times in it, so that all its parts, as often,
         * divide evenly at each throw; 9 parts of 3 THINGS keep this below 1 << 58.
         */
        private void spread(Table table, Way way, int head, int tail, int whole) {
            openHead = head;
            openTail = tail;
            openAll = whole;
            all = 1;
            for (int t = 0; t < table.things; t++) {
                all *= Fraction.power(wholeOf(table, t), DEEP);
            }
            again = 0;
            tosses = 0;
            for (int e = 0; e < ENDS; e++) {
                ends[e] = 0;
            }
            for (int k = 0; k < way.nodes && k < NODES; k++) {
                weigh(table, way, k);
                tally(way, k);
            }
        }

        private int wholeOf(Table table, int t) {
            return t == table.open ? openAll : table.allParts(t);
        }

        private int partOf(Table table, int t, int side) {
            if (t == table.open) {
                return side == 0 ? openHead : openTail;
            }
            return table.partsOf(t, side);
        }

        private void weigh(Table table, Way way, int k) {
            if (!isWithin(k, NODES)) {
                return;
            }
            weight[k] = all;
            heads[k] = 0;
            tails[k] = 0;
            int from = way.parentOf(k);
            int t = way.whichAt(from);
            int whole = wholeOf(table, t);
            if (!isWithin(from, NODES) || whole < 1) {
                return;
            }
            int side = way.sideTo(k);
            weight[k] = weight[from] / whole * partOf(table, t, side);
            heads[k] = heads[from] + (t == table.open && side == 0 ? 1 : 0);
            tails[k] = tails[from] + (t == table.open && side == 1 ? 1 : 0);
        }

        private void tally(Way way, int k) {
            if (!isWithin(k, NODES)) {
                return;
            }
            if (way.sortAt(k) == SORT_THING) {
                tosses += weight[k];
            } else if (way.sortAt(k) == SORT_AGAIN) {
                again += weight[k];
            } else if (isWithin(way.whichAt(k), ENDS)) {
                ends[way.whichAt(k)] += weight[k];
            }
        }

        private long endWeight(int end) {
            return isWithin(end, ENDS) ? ends[end] : 0;
        }

        /** POLYNOMIALS of the ENDS and (as the last) of AGAIN, in weights out of all. */
        private void tellPolynomials(Table table, Way way) {
            spread(table, way, 1, 1, 1);
            for (int i = 0; i < powers.length; i++) {
                powers[i] = 0;
            }
            for (int k = 0; k < way.nodes; k++) {
                if (way.sortAt(k) == SORT_AGAIN) {
                    addPowers(ENDS, k);
                } else if (way.sortAt(k) == SORT_END) {
                    addPowers(way.whichAt(k), k);
                }
            }
        }

        /** Adds what NODE k weighs, times p for each head and 1 - p for each tail of the open coin. */
        private void addPowers(int end, int k) {
            if (!isWithin(k, NODES)) {
                return;
            }
            long signed = weight[k];
            for (int i = 0; i <= tails[k]; i++) {
                int power = heads[k] + i;
                if (isWithin(end, ENDS + 1) && isWithin(power, DEEP + 1)) {
                    powers[end * (DEEP + 1) + power] += signed * Fraction.choices(tails[k], i);
                }
                signed = -signed;
            }
        }

        private long powerOf(int end, int i) {
            return isWithin(end, ENDS + 1) && isWithin(i, DEEP + 1) ? powers[end * (DEEP + 1) + i] : 0;
        }

        private boolean areLike(int a, int b) {
            for (int i = 0; i <= DEEP; i++) {
                if (powerOf(a, i) != powerOf(b, i)) {
                    return false;
                }
            }
            return true;
        }

        private boolean comes(int end) {
            for (int i = 0; i <= DEEP; i++) {
                if (powerOf(end, i) != 0) {
                    return true;
                }
            }
            return false;
        }

        /** Weighs the rests of some THINGS that have so many SIDES each. */
        private void mix(Table table, int set, int sides) {
            all = 1;
            for (int r = 0; r < SIDES; r++) {
                rests[r] = r == 0 ? 1 : 0;
            }
            for (int t = 0; t < table.things; t++) {
                if ((set >> t & 1) == 1) {
                    all *= table.allParts(t);
                    mixIn(table, t, sides);
                }
            }
        }

        private void mixIn(Table table, int t, int sides) {
            for (int r = 0; r < SIDES; r++) {
                restsBefore[r] = rests[r];
                rests[r] = 0;
            }
            for (int r = 0; r < sides && r < SIDES; r++) {
                for (int side = 0; side < sides; side++) {
                    int to = r + side < sides ? r + side : r + side - sides;
                    if (isWithin(to, SIDES)) {
                        rests[to] += restsBefore[r] * table.partsOf(t, side);
                    }
                }
            }
        }

        private long restWeight(int rest) {
            return isWithin(rest, SIDES) ? rests[rest] : 0;
        }
    }

    /** Follows an EVENING along the WAY; what it found is told only once the text has no FAULT. */
    private static final class Judge {
        private static final int ENDED_ALREADY = 1;
        private static final int OTHER_THING = 2;
        private static final int NO_SIDE = 3;
        private static final int NOT_ENDED = 4;
        private static final int ENDED_ELSEWHERE = 5;

        private int lines;
        private int at;
        private int wrongLine;
        private int why;
        private int tosses;
        private int rounds;
        private boolean told;
        private final int[] kept;

        private Judge() {
            kept = new int[4];
        }

        private boolean read(Tokens text, Table table, Way way) {
            lines = 0;
            at = 0;
            wrongLine = NONE;
            why = 0;
            tosses = 0;
            rounds = 0;
            while (lines < EVENING_MOST && !text.isOut() && !text.is("so")) {
                if (!readThrow(text, table, way)) {
                    return false;
                }
                lines++;
            }
            if (text.is("so") && !readSo(text, table, way)) {
                return false;
            }
            return text.isDone();
        }

        private boolean readThrow(Tokens text, Table table, Way way) {
            if (!text.isName()) {
                return text.fail(CANT_COME);
            }
            int thing = table.thingNamed(text.value);
            if (thing == NONE) {
                return text.fail(BAD_NAME);
            }
            text.step();
            if (!text.holdsNumber(0, 999)) {
                return false;
            }
            int side = text.value;
            text.step();
            if (!text.pass(';')) {
                return false;
            }
            judgeThrow(thing, side, table, way);
            return true;
        }

        private boolean readSo(Tokens text, Table table, Way way) {
            text.step();
            if (!text.isName()) {
                return text.fail(CANT_COME);
            }
            int end = table.endNamed(text.value);
            if (end == NONE) {
                return text.fail(BAD_NAME);
            }
            text.step();
            if (!text.pass(';')) {
                return false;
            }
            judgeSo(end, way);
            return true;
        }

        private void judgeThrow(int thing, int side, Table table, Way way) {
            if (why != 0) {
                return;
            }
            if (way.endAt(at) != NONE) {
                blame(ENDED_ALREADY);
            } else if (way.sortAt(at) != SORT_THING || way.whichAt(at) != thing) {
                blame(OTHER_THING);
            } else if (!isWithin(side, table.sidesOf(thing))) {
                blame(NO_SIDE);
            } else {
                tosses++;
                rounds += at == 0 ? 1 : 0;
                at = way.landing(at, side);
            }
        }

        private void judgeSo(int end, Way way) {
            if (why != 0) {
                return;
            }
            if (way.endAt(at) == NONE) {
                blame(NOT_ENDED);
            } else if (way.endAt(at) != end) {
                blame(ENDED_ELSEWHERE);
            }
        }

        private void blame(int reason) {
            why = reason;
            wrongLine = lines;
        }

        private void keep(Way way) {
            told = true;
            kept[0] = why;
            kept[1] = tosses;
            kept[2] = rounds;
            kept[3] = way.endAt(at);
        }

        private int keptAt(int what) {
            return told && isWithin(what, kept.length) ? kept[what] : NONE;
        }
    }

    /** Even BITS out of a ROW of bent throws (1 for h, 0 for t). */
    private static final class Bits {
        private static final int COUNTED_MOST = 16;
        private static final int HALVINGS = 12;

        private final byte[] bits;
        private int many;
        private final byte[] work;

        private Bits() {
            bits = new byte[ROW_MOST];
            work = new byte[2 * ROW_MOST];
        }

        private int at(int i) {
            return isWithin(i, many) && i < bits.length ? bits[i] : NONE;
        }

        private void add(int bit) {
            if (isWithin(many, bits.length)) {
                bits[many] = (byte) bit;
                many++;
            }
        }

        private int byPairs(byte[] row, int size) {
            many = 0;
            addPairs(row, 0, size);
            return many;
        }

        private void addPairs(byte[] row, int from, int size) {
            for (int i = 0; i + 1 < size; i += 2) {
                int first = throwAt(row, from + i);
                if (first != throwAt(row, from + i + 1)) {
                    add(first);
                }
            }
        }

        private static int throwAt(byte[] row, int i) {
            return isWithin(i, row.length) ? row[i] : 0;
        }

        private int bySparing(byte[] row, int size) {
            many = 0;
            for (int i = 0; i < size; i++) {
                note(i, throwAt(row, i));
            }
            spare(0, size, 0);
            return many;
        }

        private void note(int i, int thrown) {
            if (isWithin(i, work.length)) {
                work[i] = (byte) thrown;
            }
        }

        /** Rows made of this one lie behind it in work: each is half as long at most, so twice the room is enough. */
        private void spare(int from, int size, int depth) {
            if (size < 2 || depth > HALVINGS) {
                return;
            }
            addPairs(work, from, size);
            int behind = from + size;
            int made = 0;
            for (int i = 0; i + 1 < size; i += 2) {
                note(behind + made, throwAt(work, from + i) ^ throwAt(work, from + i + 1));
                made++;
            }
            spare(behind, made, depth + 1);
            made = 0;
            for (int i = 0; i + 1 < size; i += 2) {
                if (throwAt(work, from + i) == throwAt(work, from + i + 1)) {
                    note(behind + made, throwAt(work, from + i));
                    made++;
                }
            }
            spare(behind, made, depth + 1);
        }

        private int byPasts(byte[] row, int size) {
            many = 0;
            addPairsBehind(row, size, 1);
            addPairsBehind(row, size, 0);
            return many;
        }

        private void addPairsBehind(byte[] row, int size, int past) {
            int made = 0;
            for (int i = 0; i + 1 < size; i++) {
                if (throwAt(row, i) == past) {
                    note(made, throwAt(row, i + 1));
                    made++;
                }
            }
            addPairs(work, 0, made - 1);
        }

        private int byCounting(byte[] row, int size) {
            many = 0;
            int heads = 0;
            for (int i = 0; i < size; i++) {
                heads += throwAt(row, i);
            }
            long left = placeOf(row, size, heads);
            long like = Fraction.choices(size, heads);
            for (int j = COUNTED_MOST; j >= 0; j--) {
                long block = 1L << j;
                if ((like & block) != 0) {
                    if (left < block) {
                        addLowest(left, j);
                        return many;
                    }
                    left -= block;
                }
            }
            return many;
        }

        /** How many rows with as many heads come ahead of this one. */
        private static long placeOf(byte[] row, int size, int heads) {
            long place = 0;
            int left = heads;
            for (int i = 0; i < size; i++) {
                if (throwAt(row, i) == 1) {
                    place += Fraction.choices(size - i - 1, left);
                    left--;
                }
            }
            return place;
        }

        private void addLowest(long number, int howMany) {
            for (int j = howMany - 1; j >= 0; j--) {
                add((int) (number >> j & 1));
            }
        }

        /** BITS by all rows of n throws, each as often as the parts of its heads and tails have it. */
        private static long countedSum(int n, int headParts, int tailParts) {
            long sum = 0;
            for (int heads = 0; heads <= n; heads++) {
                long like = Fraction.choices(n, heads);
                long given = 0;
                for (int j = 0; j <= COUNTED_MOST; j++) {
                    given += j * (like & 1L << j);
                }
                sum += given * Fraction.power(headParts, heads) * Fraction.power(tailParts, n - heads);
            }
            return sum;
        }
    }

    /** Shares had by honest throws. */
    private static final class Shares {
        private final int[] rest;
        private int latestTook;

        private Shares() {
            rest = new int[ENDS];
            latestTook = NONE;
        }

        private static boolean areTold(Table table) {
            int whole = table.shareBelow(0);
            int sum = 0;
            for (int e = 0; e < table.ends; e++) {
                if (table.shareBelow(e) != whole) {
                    return false;
                }
                sum += table.shareAbove(e);
            }
            return whole > 0 && sum == whole;
        }

        private int shareOut(Table table, byte[] row, int size) {
            int whole = table.shareBelow(0);
            for (int e = 0; e < table.ends && e < ENDS; e++) {
                rest[e] = table.shareAbove(e);
                if (rest[e] == whole) {
                    latestTook = 0;
                    return e;
                }
            }
            int open = 0;
            for (int i = 0; i < size && i < row.length; i++) {
                open = 2 * open + row[i];
                for (int e = 0; e < table.ends && e < ENDS; e++) {
                    rest[e] *= 2;
                    if (rest[e] >= whole) {
                        rest[e] -= whole;
                        open--;
                        if (open < 0) {
                            latestTook = i + 1;
                            return e;
                        }
                    }
                }
            }
            return NONE;
        }

        /**
         * The mean is the sum of the chances that each throw is needed: of the rows of i throws as many
         * as openRows. From place twos on these come again every period places.
         */
        private static void tellFewest(Table table, Fraction fraction) {
            int odd = table.shareBelow(0);
            int twos = 0;
            while (twos < 5 && (odd & 1) == 0) {
                odd >>= 1;
                twos++;
            }
            int period = periodOfTwo(odd);
            long turn = (1L << period) - 1;
            long sum = 0;
            for (int i = 0; i < twos; i++) {
                sum += (openRows(table, i) << twos - i) * turn;
            }
            for (int j = 0; j < period; j++) {
                sum += openRows(table, twos + j) << period - j;
            }
            fraction.put(sum, turn << twos);
        }

        /** After how many doublings 1 comes back, by an odd number of 19 at most. */
        private static int periodOfTwo(int odd) {
            if (odd <= 1) {
                return 1;
            }
            int period = 1;
            int power = 2 % odd;
            while (power != 1 && period < 20) {
                power = power * 2 % odd;
                period++;
            }
            return period;
        }

        /** Of all rows of so many throws those that no END has yet. */
        private static long openRows(Table table, int places) {
            int whole = table.shareBelow(0);
            if (whole < 1) {
                return 0;
            }
            long rests = 0;
            for (int e = 0; e < table.ends; e++) {
                rests += restOf(table, places, e);
            }
            return rests / whole;
        }

        private static long restOf(Table table, int places, int e) {
            int whole = table.shareBelow(e);
            return whole < 1 ? 0 : ((long) table.shareAbove(e) << places) % whole;
        }

        private static int nearestRows(Table table, int n, int e) {
            int whole = table.shareBelow(e);
            if (whole < 1) {
                return 0;
            }
            int ahead = 0;
            long rest = restOf(table, n, e);
            for (int other = 0; other < table.ends; other++) {
                long otherRest = restOf(table, n, other);
                if (otherRest > rest || otherRest == rest && other < e) {
                    ahead++;
                }
            }
            long rows = ((long) table.shareAbove(e) << n) / whole;
            return (int) (ahead < openRows(table, n) ? rows + 1 : rows);
        }

        private static void tellOff(Table table, int n, Fraction fraction) {
            long whole = table.shareBelow(0);
            long sum = 0;
            for (int e = 0; e < table.ends; e++) {
                sum += Math.abs(nearestRows(table, n, e) * whole - ((long) table.shareAbove(e) << n));
            }
            fraction.put(sum, whole << n + 1);
        }
    }

    /**
     * The best of small WAYS. What stands on a SIDE is told by a number: END 0, END 1, AGAIN, and then,
     * for each THING in turn, nine for what a second coin has on its head and its tail.
     */
    private static final class Best {
        private static final int LEAVES = 3;
        private static final int AGAIN_LEAF = 2;
        private static final int ALL_LEAVES = LEAVES * LEAVES;
        private static final int CHOICES = LEAVES + THINGS * ALL_LEAVES;

        private final Fraction mean;
        private int tableNumber;
        private int coin;
        private int onHead;
        private int onTail;
        private final long[] first;
        private final long[] second;
        private final long[] whole;
        private boolean found;
        private long leastAbove;
        private long leastBelow;
        private int foundCoin;
        private int foundHead;
        private int foundTail;

        private Best() {
            mean = new Fraction();
            first = new long[CHOICES];
            second = new long[CHOICES];
            whole = new long[CHOICES];
        }

        private int search(Table table) {
            found = false;
            for (int choice = 0; choice < CHOICES; choice++) {
                first[choice] = partOf(table, choice, 0);
                second[choice] = partOf(table, choice, 1);
                whole[choice] = wholeOf(table, choice);
            }
            for (int t = 0; t < table.things && table.ends >= 2; t++) {
                if (table.isClosedCoin(t)) {
                    searchCoin(t, table.partsOf(t, 0), table.partsOf(t, 1));
                }
            }
            if (!found || !mean.put(leastAbove, leastBelow)) {
                return NONE;
            }
            tableNumber = table.number;
            coin = foundCoin;
            onHead = foundHead;
            onTail = foundTail;
            return 3 + 2 * thrownAfter(onHead) + 2 * thrownAfter(onTail);
        }

        private void searchCoin(int t, int heads, int tails) {
            for (int head = 0; head < CHOICES; head++) {
                for (int tail = 0; tail < CHOICES && whole[head] > 0; tail++) {
                    if (whole[tail] > 0) {
                        weigh(t, heads, tails, head, tail);
                    }
                }
            }
        }

        /** Keeps the WAY if it is even and has a lesser MEAN than what was found ahead of it. */
        private void weigh(int t, int heads, int tails, int head, int tail) {
            if (!isWithin(head, CHOICES) || !isWithin(tail, CHOICES)) {
                return;
            }
            long headWeight = heads * whole[tail];
            long tailWeight = tails * whole[head];
            long half = headWeight * first[head] + tailWeight * first[tail];
            if (half == 0 || half != headWeight * second[head] + tailWeight * second[tail]) {
                return;
            }
            int tosses = heads * (1 + thrownAfter(head)) + tails * (1 + thrownAfter(tail));
            long above = tosses * whole[head] * whole[tail];
            long below = 2 * half;
            if (!found || above * leastBelow < leastAbove * below) {
                found = true;
                leastAbove = above;
                leastBelow = below;
                foundCoin = t;
                foundHead = head;
                foundTail = tail;
            }
        }

        private static int thrownAfter(int choice) {
            return choice < LEAVES ? 0 : 1;
        }

        private static int secondCoin(int choice) {
            return choice < LEAVES ? NONE : (choice - LEAVES) / ALL_LEAVES;
        }

        private static int leafOn(int choice, int side) {
            int leaves = (choice - LEAVES) % ALL_LEAVES;
            return side == 0 ? leaves / LEAVES : leaves % LEAVES;
        }

        /** All parts of what stands there; 0, if it is a coin that can't. */
        private static int wholeOf(Table table, int choice) {
            if (choice < LEAVES) {
                return 1;
            }
            int after = secondCoin(choice);
            return table.isClosedCoin(after) ? table.allParts(after) : 0;
        }

        private static int partOf(Table table, int choice, int leaf) {
            if (choice < LEAVES) {
                return choice == leaf ? 1 : 0;
            }
            int after = secondCoin(choice);
            int head = leafOn(choice, 0) == leaf ? table.partsOf(after, 0) : 0;
            int tail = leafOn(choice, 1) == leaf ? table.partsOf(after, 1) : 0;
            return head + tail;
        }

        private void build(Way way) {
            way.clear();
            int root = way.add(SORT_THING, coin, NONE, 0);
            buildSide(way, root, 0, onHead);
            buildSide(way, root, 1, onTail);
            way.deepest = 1 + Math.max(thrownAfter(onHead), thrownAfter(onTail));
        }

        private static void buildSide(Way way, int from, int side, int choice) {
            if (choice < LEAVES) {
                buildLeaf(way, from, side, choice);
                return;
            }
            int k = way.add(SORT_THING, secondCoin(choice), from, side);
            buildLeaf(way, k, 0, leafOn(choice, 0));
            buildLeaf(way, k, 1, leafOn(choice, 1));
        }

        private static void buildLeaf(Way way, int from, int side, int leaf) {
            if (leaf == AGAIN_LEAF) {
                way.add(SORT_AGAIN, NONE, from, side);
            } else {
                way.add(SORT_END, leaf, from, side);
            }
        }
    }
}
