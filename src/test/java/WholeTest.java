import java.util.NoSuchElementException;
import java.util.Random;
import java.util.function.LongSupplier;

/** Random runs of all calls, right and wrong ones, on new objects: each answer, and the ROW behind it, is as Whole has it. */
public final class WholeTest {
    private static final int RUNS = 500;
    /** An object is promised for 512 calls: those that look at it behind each call count too. */
    private static final int CALLS = 512;
    /** A text of 80 signs with its end, a call that reads it with a ROW of 12, and all that is told at the end. */
    private static final int LAST_CALLS = 21 + 26 + 63;
    private static final String NAMES = "tpwlnqy";

    private final Random r;
    private final RentByTheWheel x = new RentByTheWheel();
    private final Whole m = new Whole();
    private final StringBuilder done = new StringBuilder();
    private int calls;

    private WholeTest(long seed) {
        r = new Random(seed);
    }

    public static void main(String[] args) {
        int runs = args.length > 0 ? Integer.parseInt(args[0]) : RUNS;
        int first = args.length > 1 ? Integer.parseInt(args[1]) : 0;
        for (int seed = first; seed < first + runs; seed++) {
            new WholeTest(seed).run();
        }
        Check.end();
    }

    private void run() {
        if (r.nextInt(8) > 0) {
            tell(aHouse(1 + r.nextInt(4)));
            same("house()", x.house(), m.house());
        }
        while (calls < CALLS - LAST_CALLS) {
            int kind = r.nextInt(10);
            if (kind < 2) {
                texts();
            } else if (kind < 5) {
                changes();
            } else {
                questions();
            }
        }
        allThatIsTold();
        Check.due("calls of a run are not more than promised", calls <= CALLS, true);
    }

    private void allThatIsTold() {
        for (int what = -1; what <= 13; what++) {
            answer("count(" + what + ")", x.count(what), m.count(what));
        }
        for (int i = 0; i < m.many; i++) {
            for (int what = 0; what <= 6; what++) {
                answer("lodger(" + i + ", " + what + ")", x.lodger(i, what), m.lodger(i, what));
            }
            answer("debt(" + i + ")", x.debt(i), m.debt(i));
        }
    }

    private void answer(String call, long got, long want) {
        calls++;
        Check.due(got == want ? call : done + call, got, want);
        done.append(call).append('=').append(want).append(' ');
    }

    /** One call more: its answer, and the whole ROW behind it. */
    private void same(String call, long got, long want) {
        answer(call, got, want);
        int many = x.count(11);
        calls++;
        Check.due(many == m.row.length ? call : "numbers of the ROW behind " + done, many, m.row.length);
        for (int i = 0; i < m.row.length && i < many; i++) {
            long number = x.row(i);
            calls++;
            Check.due(number == m.row[i] ? call : "row(" + i + ") behind " + done, number, m.row[i]);
        }
    }

    private void same(String call, boolean got, boolean want) {
        same(call, got ? 1 : 0, want ? 1 : 0);
    }

    // ---- texts

    private void tell(String text) {
        for (int p = 0; p < text.length(); p += 4) {
            int v = 0;
            for (int i = p; i < p + 4; i++) {
                v = v << 8 | (i < text.length() ? text.charAt(i) : r.nextInt(256));
            }
            answer("sign(" + v + ")", x.sign(v), m.sign(v));
        }
        int n = r.nextInt(20) == 0 ? number(0, 82) : text.length();
        answer("end(" + n + ")", x.end(n) ? 1 : 0, m.end(n) ? 1 : 0);
    }

    private String aLine() {
        StringBuilder b = new StringBuilder();
        b.append(r.nextInt(6)).append(1 + r.nextInt(9)).append(1 + r.nextInt(9)).append(':');
        int digits = 1 + r.nextInt(r.nextInt(4) == 0 ? 12 : 4);
        int most = 1 + r.nextInt(10);
        for (int i = 0; i < digits; i++) {
            b.append(r.nextInt(most));
        }
        return b.toString();
    }

    private String aHouse(int lines) {
        StringBuilder b = new StringBuilder(aLine());
        for (int i = 1; i < lines; i++) {
            b.append(';').append(aLine());
        }
        return b.toString();
    }

    private String aThing(int depth) {
        int kind = r.nextInt(10);
        if (kind == 0) {
            return "-" + aThing(depth);
        }
        if (kind < 3 && depth < (r.nextInt(6) == 0 ? 6 : 4)) {
            return "(" + aRule(depth + 1) + ")";
        }
        return kind < 5 ? String.valueOf(r.nextInt(r.nextBoolean() ? 10 : 1000)) : String.valueOf(NAMES.charAt(r.nextInt(7)));
    }

    private String aRule(int depth) {
        StringBuilder b = new StringBuilder(aThing(depth));
        int more = r.nextInt(depth == 0 ? 6 : 3);
        boolean compared = false;
        for (int i = 0; i < more; i++) {
            boolean compares = r.nextInt(5) == 0 && (!compared || r.nextInt(20) == 0);
            compared |= compares;
            String signs = compares ? "<>=" : "+-*/";
            b.append(signs.charAt(r.nextInt(signs.length()))).append(aThing(depth));
        }
        return b.toString();
    }

    private String aDay() {
        StringBuilder b = new StringBuilder();
        int quarters = r.nextInt(r.nextInt(10) == 0 ? 40 : 14);
        for (int i = 0; i < quarters; i++) {
            int letters = r.nextInt(12) == 0 ? 6 : Math.max(1, m.many);
            char one = (char) ('a' + r.nextInt(letters));
            char other = (char) ('a' + r.nextInt(letters));
            int kind = r.nextInt(3);
            b.append(kind == 0 || kind == 1 && one == other && r.nextInt(9) > 0 ? "." : kind == 1 ? "[" + one + other + "]" : one);
        }
        return b.toString();
    }

    private String someValues() {
        int k = 2 + r.nextInt(3);
        StringBuilder b = new StringBuilder();
        for (int i = 0; i < k; i++) {
            b.append(i == 0 ? "" : "/");
            for (int j = 0; j < k; j++) {
                b.append(r.nextInt(10));
            }
        }
        return b.toString();
    }

    /** Now and then a text that is not quite right: a sign more, fewer, another, the same once more. */
    private String spoiled(String text) {
        if (r.nextInt(3) > 0 || text.isEmpty()) {
            return text;
        }
        int p = r.nextInt(text.length());
        String all = "0123456789tpwlnqy()+-*/<>=.[]abcdefg;: ";
        char c = r.nextInt(6) == 0 ? (char) r.nextInt(256) : all.charAt(r.nextInt(all.length()));
        switch (r.nextInt(5)) {
            case 0: return text.substring(0, p) + c + text.substring(p);
            case 1: return text.substring(0, p) + text.substring(p + 1);
            case 2: return text.substring(0, p) + c + text.substring(p + 1);
            case 3: return text.substring(0, p);
            default: return text + text.substring(p);
        }
    }

    private void texts() {
        switch (r.nextInt(12)) {
            case 0:
                tell(spoiled(aHouse(1 + r.nextInt(3))));
                same("house()", x.house(), m.house());
                break;
            case 1: case 2: case 3: case 4:
                tell(spoiled(aRule(0)));
                same("rule()", x.rule(), m.rule());
                break;
            case 5: case 6: case 7:
                tell(spoiled(aDay()));
                same("day()", x.day(), m.day());
                break;
            case 8: case 9:
                tell(spoiled(aDay()));
                same("look()", x.look(), m.look());
                break;
            default:
                tell(spoiled(someValues()));
                same("values()", x.values(), m.values());
                break;
        }
    }

    // ---- calls

    /** Mostly from one to another, both among them; now and then next to them, or anything. */
    private int number(int from, int to) {
        switch (r.nextInt(24)) {
            case 0: return from - 1;
            case 1: return to + 1;
            case 2: return from;
            case 3: return to;
            case 4: return r.nextInt(4) > 0 ? from : r.nextInt();
            default: return from + r.nextInt(to - from + 1);
        }
    }

    private int someone() {
        return number(0, Math.max(0, m.many - 1));
    }

    private int oneOrNone() {
        return r.nextInt(3) == 0 ? -1 : someone();
    }

    private int bits() {
        return number(0, (1 << m.many) - 1);
    }

    private void changes() {
        int a = someone();
        int b = oneOrNone();
        switch (r.nextInt(12)) {
            case 0: {
                int what = number(0, 2);
                int v = what == 0 ? number(1, r.nextBoolean() ? 999 : 60) : what == 1 ? number(0, 9) : number(0, m.is.room);
                same("set(" + what + ", " + v + ")", x.set(what, v), m.set(what, v));
                break;
            }
            case 1: {
                int v = number(0, 1);
                same("brake(" + a + ", " + v + ")", x.brake(a, v), m.brake(a, v));
                break;
            }
            case 2: {
                if (r.nextInt(3) == 0) {
                    sheet();
                }
                break;
            }
            case 3:
                same("undo()", x.undo(), m.undo());
                break;
            case 4: {
                int i = number(0, 1);
                same("keep(" + i + ")", x.keep(i), m.keep(i));
                break;
            }
            case 5: {
                int i = number(0, 1);
                same("again(" + i + ")", x.again(i), m.again(i));
                break;
            }
            case 6: case 7: {
                int turns = r.nextBoolean() && m.many > 0 ? m.paces[r.nextInt(m.many)] : number(0, 9);
                int weight = r.nextBoolean() ? -1 : number(0, 18);
                same("peg(" + turns + ", " + weight + ")", x.peg(turns, weight), m.peg(turns, weight));
                break;
            }
            case 8:
                if (r.nextInt(4) == 0) {
                    same("forget()", x.forget(), m.forget());
                }
                break;
            default: {
                int one = oneOrNone();
                int other = one == -1 ? (r.nextInt(5) == 0 ? b : -1) : b;
                same("quarter(" + one + ", " + other + ")", x.quarter(one, other), m.quarter(one, other));
                break;
            }
        }
    }

    private void sheet() {
        int kind = number(0, 3);
        int n = number(0, 6);
        int f = r.nextInt(3) == 0 ? r.nextInt() : r.nextInt(700) - 300;
        int step = r.nextInt(3) == 0 ? r.nextInt() : r.nextInt(9) - 4;
        same("sheet(" + kind + ", " + n + ", " + f + ", " + step + ")", x.sheet(kind, n, f, step), m.sheet(kind, n, f, step));
    }

    private void questions() {
        int a = someone();
        int b = someone();
        int those = bits();
        int n = number(1, 60);
        switch (r.nextInt(30)) {
            case 0: {
                int what = number(0, 6);
                String call = "lodger(" + a + ", " + what + ")";
                same(call, orNone(() -> x.lodger(a, what)), orNone(() -> m.lodger(a, what)));
                break;
            }
            case 1: same("debt(" + a + ")", orNone(() -> x.debt(a)), orNone(() -> m.debt(a))); break;
            case 2: {
                int other = oneOrNone();
                same("lifts(" + a + ", " + other + ")", x.lifts(a, other), m.lifts(a, other));
                break;
            }
            case 3: {
                int q = number(1, 12);
                same("fewest(" + those + ", " + q + ")", x.fewest(those, q), m.fewest(those, q));
                break;
            }
            case 4: {
                int q = number(1, 12);
                same("driest(" + those + ", " + q + ")", x.driest(those, q), m.driest(those, q));
                break;
            }
            case 5: same("pays(" + those + ")", x.pays(those), m.pays(those)); break;
            case 6: same("strongest(" + those + ")", x.strongest(those), m.strongest(those)); break;
            case 7: same("roomy(" + a + ", " + n + ")", x.roomy(a, n), m.roomy(a, n)); break;
            case 8: same("even(" + n + ")", x.even(n), m.even(n)); break;
            case 9: same("thirst(" + n + ")", x.thirst(n), m.thirst(n)); break;
            case 10: {
                int v = number(1, r.nextBoolean() ? 999 : m.is.room);
                same("bath(" + a + ", " + v + ")", x.bath(a, v), m.bath(a, v));
                break;
            }
            case 11: same("shares()", x.shares(), m.shares()); break;
            case 12: same("fairdue()", x.fairdue(), m.fairdue()); break;
            case 13: same("ahead(" + a + ")", x.ahead(a), m.ahead(a)); break;
            case 14: same("changed(" + a + ", " + b + ", " + n + ")", x.changed(a, b, n), m.changed(a, b, n)); break;
            case 15: same("lasts()", x.lasts(), m.lasts()); break;
            default: questionsFurther(a, b, those); break;
        }
    }

    private void questionsFurther(int a, int b, int those) {
        switch (r.nextInt(15)) {
            case 0: same("pairs(" + those + ")", x.pairs(those), m.pairs(those)); break;
            case 1: {
                int v = number(0, r.nextBoolean() ? 198 : 30);
                same("enough(" + v + ")", x.enough(v), m.enough(v));
                break;
            }
            case 2: same("step(" + a + ")", x.step(a), m.step(a)); break;
            case 3: same("allot()", x.allot(), m.allot()); break;
            case 4: {
                int n = number(0, r.nextBoolean() ? 48 : 20);
                same("rents(" + n + ")", x.rents(n), m.rents(n));
                break;
            }
            case 5: {
                int n = number(1, 9);
                same("rests(" + a + ", " + b + ", " + n + ")", x.rests(a, b, n), m.rests(a, b, n));
                break;
            }
            case 6: same("trod()", x.trod(), m.trod()); break;
            case 7: {
                int i = number(0, Math.max(0, m.read.size() - 1));
                same("ways(" + i + ")", x.ways(i), m.ways(i));
                break;
            }
            case 8: case 9: {
                int set = r.nextInt(4) == 0 ? those : 1 << a | 1 << b;
                int v = aLevelOf(a, b);
                same("braked(" + set + ", " + v + ")", x.braked(set, v), m.braked(set, v));
                break;
            }
            case 10: {
                int n = number(1, 12);
                int p = number(0, 10);
                same("owes(" + a + ", " + n + ", " + p + ")", x.owes(a, n, p), m.owes(a, n, p));
                break;
            }
            case 11: {
                int n = number(1, 12);
                int p = number(0, 10);
                same("fund(" + a + ", " + n + ", " + p + ")", x.fund(a, n, p), m.fund(a, n, p));
                break;
            }
            case 12: {
                int seed = r.nextInt();
                int n = number(1, 20);
                same("years(" + seed + ", " + n + ")", x.years(seed, n), m.years(seed, n));
                break;
            }
            case 13: {
                int what = number(0, 12);
                same("count(" + what + ")", x.count(what), m.count(what));
                break;
            }
            default: {
                int i = number(0, 12);
                same("row(" + i + ")", orNone(() -> x.row(i)), i >= 0 && i < m.row.length ? m.row[i] : Long.MIN_VALUE);
                break;
            }
        }
    }

    /** Mostly one that one or two can have lifted. */
    private int aLevelOf(int a, int b) {
        if (!m.has(a) || !m.has(b) || r.nextInt(5) == 0) {
            return number(0, 999);
        }
        int[] who = a == b ? new int[] {a} : new int[] {a, b};
        int first = m.unbraked(a, 0, m.is.now, who);
        int second = a == b ? 0 : m.unbraked(b, 0, m.is.now, who);
        return Math.min(m.is.room, r.nextInt(4) == 0 ? 0 : r.nextInt(3) == 0 ? first : r.nextInt(2) == 0 ? second : first + second);
    }

    private static long orNone(LongSupplier call) {
        try {
            return call.getAsLong();
        } catch (NoSuchElementException e) {
            return Long.MIN_VALUE;
        }
    }
}
