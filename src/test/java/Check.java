import java.util.NoSuchElementException;
import java.util.function.LongSupplier;

/** What all tests use: answers compared with those that are due. */
final class Check {
    static final int NONE = RentByTheWheel.NONE;
    /** a: STOREY 0, PACE 3, WEIGHT 4; b: 2, 5, 8; c: 1, 2, 1. */
    static final String THREE = "034:2;258:13;121:0";

    private static int wrong = 0;
    private static int asked = 0;

    private Check() {
    }

    static void due(String what, long got, long want) {
        asked++;
        if (got != want) {
            wrong++;
            System.out.println(what + " answered " + got + ", due is " + want);
        }
    }

    static void due(String what, boolean got, boolean want) {
        due(what, got ? 1 : 0, want ? 1 : 0);
    }

    /** An answer and the whole ROW behind it. */
    static void due(String what, RentByTheWheel x, long got, long want, long... row) {
        due(what, got, want);
        dueRow(what, x, row);
    }

    static void dueRow(String what, RentByTheWheel x, long... row) {
        due(what + ", numbers of the ROW", x.count(11), row.length);
        for (int i = 0; i < row.length && i < x.count(11); i++) {
            due(what + ", row(" + i + ")", x.row(i), row[i]);
        }
        dueNoSuch(what + ", row behind its end", () -> x.row(x.count(11)));
        dueNoSuch(what + ", row(-1)", () -> x.row(-1));
    }

    static void dueNoSuch(String what, LongSupplier call) {
        long thrown = 0;
        try {
            call.getAsLong();
        } catch (NoSuchElementException e) {
            thrown = 1;
        }
        due(what + " throws NoSuchElementException", thrown, 1);
    }

    /** THE TEXT becomes this one (of at most 80 signs, each 0 .. 255). */
    static void text(RentByTheWheel x, String signs) {
        x.end(0);
        for (int p = 0; p < signs.length(); p += 4) {
            int v = 0;
            for (int i = p; i < p + 4; i++) {
                v = v << 8 | (i < signs.length() ? signs.charAt(i) : 0);
            }
            x.sign(v);
        }
        x.end(signs.length());
    }

    static int house(RentByTheWheel x, String signs) {
        text(x, signs);
        return x.house();
    }

    static int rule(RentByTheWheel x, String signs) {
        text(x, signs);
        return x.rule();
    }

    static int day(RentByTheWheel x, String signs) {
        text(x, signs);
        return x.day();
    }

    static int look(RentByTheWheel x, String signs) {
        text(x, signs);
        return x.look();
    }

    static int values(RentByTheWheel x, String signs) {
        text(x, signs);
        return x.values();
    }

    static RentByTheWheel with(String house) {
        RentByTheWheel x = new RentByTheWheel();
        due("house " + house, house(x, house) > 0, true);
        return x;
    }

    /** All that is told of an object but for the ROW. */
    static String told(RentByTheWheel x) {
        StringBuilder b = new StringBuilder();
        for (int what = 0; what <= 12; what++) {
            b.append(what == 11 ? 0 : x.count(what)).append(' ');
        }
        for (int i = 0; i < x.count(0); i++) {
            for (int what = 0; what <= 6; what++) {
                b.append(x.lodger(i, what)).append(' ');
            }
            b.append(x.debt(i)).append(';');
        }
        return b.toString();
    }

    static String rowOf(RentByTheWheel x) {
        StringBuilder b = new StringBuilder();
        for (int i = 0; i < x.count(11); i++) {
            b.append(x.row(i)).append(' ');
        }
        return b.toString();
    }

    static void same(String what, String got, String want) {
        asked++;
        if (!got.equals(want)) {
            wrong++;
            System.out.println(what + ": " + got + ", due is " + want);
        }
    }

    static void end() {
        System.out.println(asked + " answers, " + wrong + " of them not as due");
        if (wrong != 0 || asked == 0) {
            System.exit(1);
        }
    }
}
