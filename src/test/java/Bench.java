import java.util.NoSuchElementException;

/** What the tests share: texts brought onto the tape, and answers compared with what is due. */
final class Bench {
    static final String TABLE = "coin p open;coin q 1 3;wheel w 1 2 3;end x 1 3;end y 2 3;";

    interface Call {
        long answer();
    }

    private int checked;
    private int wrong;

    void due(String call, long got, long want) {
        checked++;
        if (got != want) {
            wrong++;
            System.out.println(call + " answered " + got + ", due is " + want);
        }
    }

    void yes(String call, boolean got) {
        due(call, got ? 1 : 0, 1);
    }

    void no(String call, boolean got) {
        due(call, got ? 1 : 0, 0);
    }

    void fraction(String call, Call above, Call below, long wantAbove, long wantBelow) {
        due(call + " above", above.answer(), wantAbove);
        due(call + " below", below.answer(), wantBelow);
    }

    void none(String call, Call of) {
        checked++;
        try {
            long got = of.answer();
            wrong++;
            System.out.println(call + " answered " + got + ", due is NoSuchElementException");
        } catch (NoSuchElementException e) {
            return;
        }
    }

    void text(String call, BentPenny x, int size, String want) {
        due(call + " size", size, want.length());
        for (int i = 0; i < want.length(); i++) {
            due(call + " byte " + i, x.byteAt(i), want.charAt(i));
        }
        due(call + " behind it", x.byteAt(want.length()), BentPenny.NONE);
    }

    void bits(String call, BentPenny x, int size, String want) {
        due(call + " size", size, want.length());
        for (int i = 0; i < want.length(); i++) {
            due(call + " bit " + i, x.bit(i), want.charAt(i) - '0');
        }
        due(call + " behind them", x.bit(want.length()), BentPenny.NONE);
    }

    /** Brings the text behind the tape, byte by byte as feed wants them. */
    static BentPenny tape(BentPenny x, String text) {
        int from = x.count(4);
        for (int i = 0; i < text.length(); i += 20) {
            x.feed(four(text, i), four(text, i + 4), four(text, i + 8), four(text, i + 12), four(text, i + 16));
        }
        x.end(from + text.length());
        return x;
    }

    private static int four(String text, int from) {
        int number = 0;
        for (int i = from; i < from + 4; i++) {
            number = number << 8 | (i < text.length() ? text.charAt(i) & 255 : 0);
        }
        return number;
    }

    static BentPenny withTable(String table) {
        BentPenny x = new BentPenny();
        tape(x, table).table();
        return x;
    }

    static BentPenny withWay(String table, String way) {
        BentPenny x = withTable(table);
        tape(x, way).way();
        return x;
    }

    static String times(String text, int many) {
        StringBuilder all = new StringBuilder();
        for (int i = 0; i < many; i++) {
            all.append(text);
        }
        return all.toString();
    }

    /** Ends the test: its name, how many answers were looked at, and exit code 1 if one was wrong. */
    void close(String name) {
        System.out.println(name + ": " + checked + " answers, " + wrong + " wrong");
        if (wrong != 0 || checked == 0) {
            System.exit(1);
        }
    }
}
