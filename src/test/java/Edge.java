import java.util.function.Supplier;
import java.util.function.ToLongFunction;

/** What the tests of boundary cases use: calls that leave everything as it was, signs that can't stand. */
final class Edge {
    static final int NONE = RentByTheWheel.NONE;
    static final String DIGITS = "0123456789";
    /** Arguments that are far outside everything. */
    static final int[] FAR = {Integer.MIN_VALUE, Integer.MIN_VALUE + 1, -1000, 1000000, Integer.MAX_VALUE - 1, Integer.MAX_VALUE};

    private Edge() {
    }

    /** An object of three LODGERS that has something of everything that a call could change. */
    static RentByTheWheel busy() {
        RentByTheWheel x = Check.with(Check.THREE);
        Check.rule(x, "t+w-l/9+n+q*2+y");
        Check.values(x, "53/26");
        x.sheet(2, 3, 4, 1);
        x.set(0, 40);
        x.set(1, 3);
        x.set(2, 17);
        x.brake(2, 1);
        x.peg(4, NONE);
        x.peg(5, 12);
        x.keep(0);
        x.quarter(0, NONE);
        Check.day(x, "b.[ab]a");
        x.keep(1);
        x.quarter(1, 0);
        Check.text(x, ".b[ab]");
        x.thirst(5);
        return x;
    }

    /** A refused call answers so, and all that can be asked of the object is as it was, the ROW and THE TEXT too. */
    static void refused(String what, ToLongFunction<RentByTheWheel> call, long answer) {
        refused(what, Edge::busy, call, answer);
    }

    static void refused(String what, Supplier<RentByTheWheel> made, ToLongFunction<RentByTheWheel> call, long answer) {
        RentByTheWheel x = made.get();
        RentByTheWheel twin = made.get();
        Check.due(what, call.applyAsLong(x), answer);
        Check.same(what + " leaves all as it was", whole(x), whole(twin));
    }

    /** A refused call that reads THE TEXT: all is as it was but for THE TEXT, which is empty. */
    static void refusedText(String what, String text, ToLongFunction<RentByTheWheel> call, long answer) {
        refusedText(what, Edge::busy, text, call, answer);
    }

    static void refusedText(String what, Supplier<RentByTheWheel> made, String text, ToLongFunction<RentByTheWheel> call, long answer) {
        RentByTheWheel x = made.get();
        RentByTheWheel twin = made.get();
        Check.text(x, text);
        twin.end(0);
        Check.due(what + " " + text, call.applyAsLong(x), answer);
        Check.due(what + " " + text + ": THE TEXT is empty", x.count(12), 0);
        Check.same(what + " " + text + " leaves all as it was", whole(x), whole(twin));
    }

    /** NoSuchElementException, and all is as it was. */
    static void thrown(String what, ToLongFunction<RentByTheWheel> call) {
        RentByTheWheel x = busy();
        RentByTheWheel twin = busy();
        Check.dueNoSuch(what, () -> call.applyAsLong(x));
        Check.same(what + " leaves all as it was", whole(x), whole(twin));
    }

    /** A question changes nothing but the ROW. */
    static void question(String what, ToLongFunction<RentByTheWheel> call) {
        RentByTheWheel x = busy();
        RentByTheWheel twin = busy();
        long got = call.applyAsLong(x);
        String row = Check.rowOf(x);
        Check.same(what + " changes nothing", wholeButRow(x), wholeButRow(twin));
        Check.due(what + " of a twin", call.applyAsLong(twin = busy()), got);
        Check.same(what + " of a twin, its ROW", Check.rowOf(twin), row);
    }

    /** Which of all signs 0 .. 255 can stand behind a text, and that no other can, told by the answer -1 - p. */
    static void stand(String what, String text, String signs, Supplier<RentByTheWheel> made, ToLongFunction<RentByTheWheel> call) {
        for (char c = 0; c < 256; c++) {
            RentByTheWheel x = made.get();
            Check.text(x, text + c);
            boolean refused = call.applyAsLong(x) == -1 - text.length();
            Check.due(what + " " + text + ", then sign " + (int) c + ": it can't stand there", refused, signs.indexOf(c) < 0);
        }
    }

    static String times(String part, int n) {
        return part.repeat(n);
    }

    /** All that can be asked; the object is used up by that. */
    static String whole(RentByTheWheel x) {
        return "row " + Check.rowOf(x) + "; " + wholeButRow(x);
    }

    static String wholeButRow(RentByTheWheel x) {
        StringBuilder b = new StringBuilder(Check.told(x));
        lifts(b, x);
        b.append(" allot ").append(x.allot()).append(x.allot() < 0 ? "" : Check.rowOf(x));
        b.append(" rents ").append(x.rents(7)).append(x.allot() < 0 ? "" : Check.rowOf(x));
        for (int i = 0; i < x.count(9); i++) {
            b.append(" ways ").append(x.ways(i)).append(' ').append(Check.rowOf(x));
        }
        int signs = x.count(12);
        b.append(" text ").append(signs).append(' ').append(x.look()).append(' ').append(Check.rowOf(x));
        for (int i = x.count(10); i > 0; i--) {
            b.append(" undo ").append(x.undo()).append(' ').append(state(x));
        }
        for (int i = 0; i < 2; i++) {
            b.append(" again ").append(x.again(i)).append(' ').append(state(x));
        }
        return b.toString();
    }

    private static void lifts(StringBuilder b, RentByTheWheel x) {
        for (int one = 0; one < x.count(0); one++) {
            for (int other = NONE; other < one; other++) {
                b.append(" lifts ").append(x.lifts(one, other)).append(' ').append(Check.rowOf(x));
            }
        }
    }

    /** NOW, LEVEL, DEBTS, DRY: what goes by, is undone and kept. */
    static String state(RentByTheWheel x) {
        StringBuilder b = new StringBuilder();
        b.append(x.count(1)).append(' ').append(x.count(4));
        for (int i = 0; i < x.count(0); i++) {
            b.append(' ').append(x.debt(i)).append(' ').append(x.lodger(i, 4));
        }
        return b.toString();
    }
}
