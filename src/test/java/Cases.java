import java.lang.reflect.InvocationTargetException;
import java.lang.reflect.Method;
import java.util.ArrayList;
import java.util.Arrays;
import java.util.Comparator;
import java.util.List;
import java.util.NoSuchElementException;
import java.util.function.Supplier;

/**
 * Runs the tests of a class, each a method that is named after the promise and the case, and holds what they share:
 * objects in states full of what was told, and what can be seen of an object.
 */
final class Cases {
    /** Stands for an answer that is a NoSuchElementException. */
    static final long THROWS = Long.MIN_VALUE;
    static final int NONE = BentPenny.NONE;
    static final int LEAST = Integer.MIN_VALUE;
    static final int GREATEST = Integer.MAX_VALUE;
    static final String CLOSED_WAY = "q(x:w(y:again:x))";
    static final String OPEN_WAY = "p(p(again:x):p(y:again))";

    interface Call {
        long of(BentPenny x);
    }

    interface Parts {
        long of(BentPenny x, int what);
    }

    private static int looked;
    private static int wrong;

    private Cases() {
    }

    static void runAll(Class<?> tests) {
        Method[] methods = tests.getDeclaredMethods();
        Arrays.sort(methods, Comparator.comparing(Method::getName));
        int ran = 0;
        int failed = 0;
        int answers = 0;
        for (Method method : methods) {
            if (method.getName().matches("(terms|promise\\d+)_\\w+") && method.getParameterCount() == 0) {
                ran++;
                failed += holds(method) ? 0 : 1;
                answers += looked;
            }
        }
        System.out.println(tests.getName() + ": " + ran + " cases, " + answers + " answers, " + failed + " failed");
        if (failed != 0 || ran == 0) {
            System.exit(1);
        }
    }

    private static boolean holds(Method method) {
        looked = 0;
        wrong = 0;
        try {
            method.invoke(null);
        } catch (InvocationTargetException | IllegalAccessException e) {
            wrong++;
            System.out.println("  stopped by " + (e.getCause() == null ? e : e.getCause()));
        }
        if (wrong == 0 && looked > 0) {
            return true;
        }
        System.out.println("FAILED " + method.getName() + ": " + wrong + " of " + looked + " answers");
        return false;
    }

    // ---- single answers ----

    static void due(String call, long got, long want) {
        looked++;
        if (got != want) {
            wrong++;
            if (wrong <= 5) {
                System.out.println("  " + call + " answered " + name(got) + ", due is " + name(want));
            }
        }
    }

    private static String name(long answer) {
        return answer == THROWS ? "NoSuchElementException" : String.valueOf(answer);
    }

    static void due(String call, boolean got, boolean want) {
        due(call, got ? 1 : 0, want ? 1 : 0);
    }

    static void due(String call, BentPenny x, Call of, long want) {
        due(call, answer(x, of), want);
    }

    static long answer(BentPenny x, Call of) {
        try {
            return of.of(x);
        } catch (NoSuchElementException e) {
            return THROWS;
        }
    }

    static void fraction(String call, BentPenny x, Parts of, long above, long below) {
        due(call + " above", x, o -> of.of(o, 0), above);
        due(call + " below", x, o -> of.of(o, 1), below);
        due(call + " above once more", x, o -> of.of(o, 0), above);
    }

    static void bits(String call, BentPenny x, int many, String want) {
        due(call + " BITS", many, want.length());
        for (int i = 0; i < want.length(); i++) {
            due(call + " BIT " + i, x.bit(i), want.charAt(i) - '0');
        }
        due(call + " behind the BITS", x.bit(want.length()), NONE);
    }

    static void written(BentPenny x, String want) {
        due("write()", x.write(), want.length());
        for (int i = 0; i < want.length(); i += want.length() > 300 ? 3 : 1) {
            due("byte " + i, x.byteAt(i), want.charAt(i));
        }
        due("the last byte", x.byteAt(want.length() - 1), want.charAt(want.length() - 1));
        due("behind the bytes", x.byteAt(want.length()), NONE);
    }

    // ---- states ----

    static BentPenny fresh() {
        return new BentPenny();
    }

    static BentPenny withTape(String text) {
        return Bench.tape(new BentPenny(), text);
    }

    static BentPenny full() {
        return told(Bench.TABLE, CLOSED_WAY);
    }

    static BentPenny opened() {
        return told(Bench.TABLE, OPEN_WAY);
    }

    static BentPenny never() {
        return told(Bench.TABLE, "q(again:w(again:again:again))");
    }

    static BentPenny noWay() {
        return told(Bench.TABLE, null);
    }

    static BentPenny noShares() {
        return told("coin q 1 3;wheel w 1 2 3;end x 1 3;end y 1 3;", CLOSED_WAY);
    }

    static BentPenny oneEnd() {
        return told("coin q 1 2;end x 1 3;", "q(x:again)");
    }

    /** An object of which every call that tells of an earlier one has something to tell. */
    static BentPenny told(String table, String way) {
        BentPenny x = Bench.withWay("wheel v 1 1;end n;end m;", "v(n:again)");
        Bench.tape(x, "not comes").sentence();
        x.image(1);
        Bench.tape(x, Bench.TABLE).table();
        Bench.tape(x, CLOSED_WAY).way();
        tellAll(x);
        if (!table.equals(Bench.TABLE) || way == null) {
            Bench.tape(x, table).table();
        }
        if (way != null) {
            Bench.tape(x, way).way();
        }
        Bench.tape(x, "like x or place=1").sentence();
        Bench.tape(x, "coin a 3 2;").table();
        return Bench.tape(x, "hth");
    }

    private static void tellAll(BentPenny x) {
        Bench.tape(x, "q 1;w 0;so x;").evening();
        Bench.tape(x, "hthhth").runs();
        Bench.tape(x, "thhtht").pairs();
        Bench.tape(x, "ht").shared();
        x.best();
        x.write();
        x.cast(400, 7);
    }

    // ---- what can be seen of an object ----

    /** All that an object tells, the tape's bytes and what it keeps at last, in some 250 calls. */
    private static List<Long> seen(BentPenny x, boolean withFault) {
        List<Long> seen = new ArrayList<>();
        if (withFault) {
            seen.add((long) x.fault());
        }
        seeTexts(seen, x);
        seeChances(seen, x);
        seeTold(seen, x);
        seen.add((long) x.runs());
        seen.add(answer(x, o -> o.seldom(0)));
        seen.add(answer(x, o -> o.seldom(1)));
        seen.add(x.take() ? 1L : 0L);
        seeTexts(seen, x);
        for (int place = 0; place < 2; place++) {
            seen.add(x.restore(place) ? 1L : 0L);
            seeTexts(seen, x);
        }
        return seen;
    }

    private static void seeTexts(List<Long> seen, BentPenny x) {
        for (int what = 0; what < 5; what++) {
            seen.add((long) x.count(what));
        }
        for (int t = 0; t < 3; t++) {
            int thing = t;
            seen.add(answer(x, o -> o.thing(thing, 1)));
            seen.add((long) x.side(t, 0));
            seen.add((long) x.side(t, 2));
            seen.add((long) x.share(t, 0));
            seen.add((long) x.share(t, 1));
        }
        for (int k = 0; k < 7; k++) {
            seen.add((long) x.node(k));
            seen.add((long) x.nodeOf(k));
            seen.add((long) x.next(k, 1));
        }
        seen.add((long) x.deep());
        for (int k = NONE; k < 2; k++) {
            seen.add((long) x.said(k));
        }
    }

    private static void seeChances(List<Long> seen, BentPenny x) {
        for (int e = 0; e < 2; e++) {
            int end = e;
            seen.add(answer(x, o -> o.chanceAt(end, 1, 3, 1)));
            seen.add(answer(x, o -> o.poly(end, 1, 0)));
            seen.add((long) x.nearest(3, e));
        }
        seen.add(answer(x, o -> o.mean(1, 3, 0)));
        seen.add((long) x.like(0, 1));
        seen.add((long) x.even());
        seen.add(answer(x, o -> o.fewest(0)));
    }

    private static void seeTold(List<Long> seen, BentPenny x) {
        for (int i = 0; i < 4; i++) {
            seen.add((long) x.judged(i));
            seen.add((long) x.bit(i));
        }
        for (int what = 0; what < 2; what++) {
            int part = what;
            seen.add(answer(x, o -> o.seldom(part)));
            seen.add(answer(x, o -> o.bestMean(part)));
        }
        for (int i = 0; i < 18; i++) {
            seen.add((long) x.byteAt(i));
        }
        seen.add((long) x.took());
        seen.add((long) x.tosses());
    }

    private static void alike(String call, List<Long> got, List<Long> want) {
        looked++;
        if (!got.equals(want)) {
            wrong++;
            System.out.println("  behind " + call + " there is " + got + ",\n  due is " + want);
        }
    }

    // ---- refused calls ----

    /** The call answers so, and all that can be seen is as it was ahead of it. */
    static void refused(Supplier<BentPenny> state, String call, Call of, long want) {
        BentPenny x = state.get();
        due(call, x, of, want);
        alike(call, seen(x, true), seen(state.get(), true));
    }

    /** Likewise, but the text that the call read is gone from the tape. */
    static void refusedTape(Supplier<BentPenny> state, String text, String call, Call of, long want) {
        BentPenny x = taped(state, text);
        due(call + " of " + text, x, of, want);
        alike(call, seen(x, true), seen(taped(state, ""), true));
    }

    /** Likewise, and fault() tells the FAULT. */
    static void refusedText(Supplier<BentPenny> state, String text, String call, Call of, long want, int fault) {
        BentPenny x = taped(state, text);
        due(call + " of " + text, x, of, want);
        due("fault() of " + text, x.fault(), fault);
        alike(call, seen(x, false), seen(taped(state, ""), false));
    }

    private static BentPenny taped(Supplier<BentPenny> state, String text) {
        BentPenny x = state.get();
        x.end(0);
        return Bench.tape(x, text);
    }

    static void tableFault(String text, int place, int kind) {
        refusedText(Cases::full, text, "table()", x -> x.table(), -1 - place, kind);
    }

    static void wayFault(String text, int place, int kind) {
        refusedText(Cases::full, text, "way()", x -> x.way(), -1 - place, kind);
    }

    static void wayFault(String table, String text, int place, int kind) {
        refusedText(() -> told(table, "again"), text, "way()", x -> x.way(), -1 - place, kind);
    }

    static void eveningFault(String text, int place, int kind) {
        refusedText(Cases::full, text, "evening()", x -> x.evening(), -2 - place, kind);
    }

    static void sentenceFault(String text, int place, int kind) {
        refusedText(Cases::full, text, "sentence()", x -> x.sentence(), -1 - place, kind);
    }

    static void lines(String text, int want) {
        BentPenny x = withTape(text);
        due("table() of " + text, x.table(), want);
        due("fault() of " + text, x.fault(), 0);
        due("the tape behind " + text, x.count(4), 0);
        due("THINGS and ENDS of " + text, x.count(0) + x.count(1), want);
    }

    static void nodes(String table, String text, int want) {
        BentPenny x = Bench.withTable(table);
        due("way() of " + text, Bench.tape(x, text).way(), want);
        due("fault() of " + text, x.fault(), 0);
        due("the tape behind " + text, x.count(4), 0);
        due("NODES of " + text, x.count(2), want);
    }

    static void ones(String text, int want) {
        BentPenny x = Bench.withWay(Bench.TABLE, CLOSED_WAY);
        due("sentence() of " + text, Bench.tape(x, text).sentence(), want);
        due("fault() of " + text, x.fault(), 0);
        due("the tape behind " + text, x.count(4), 0);
    }

    static String blanks(int many) {
        return Bench.times(" ", many);
    }

    /** The text with blanks behind it up to so many bytes, and then the other text. */
    static String padded(String text, int bytes, String behind) {
        return text + blanks(bytes - text.length()) + behind;
    }
}
