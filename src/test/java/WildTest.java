import java.lang.management.ManagementFactory;
import java.util.NoSuchElementException;
import java.util.Random;

/** Calls with any arguments: none throws but where the document says so, refused ones change nothing. */
public final class WildTest {
    /** Calls have numbers as the document's face has them, from 0 on, but for the last: a text and row(). */
    private static final int A_TEXT = 45;
    private static final String[] TEXTS = {"034:2;258:13;121:0", "511:123456789012", "t*(w+1)/4-l/9", "l<(q+y)*n", "-(((p)))/0",
        ".a[ab]b..", "abcdef", "53/26", "123/456/789", "1234/2345/3456/4567", "[ba", "((((((", "999*999*999*999*999/-1"};

    public static void main(String[] args) {
        for (int seed = 0; seed < 300; seed++) {
            run(seed);
        }
        room();
        Check.end();
    }

    private static void run(int seed) {
        Random r = new Random(seed);
        RentByTheWheel x = new RentByTheWheel();
        RentByTheWheel twin = new RentByTheWheel();
        if (seed % 3 > 0) {
            Check.due("twins", Check.house(x, TEXTS[seed % 3 - 1]), Check.house(twin, TEXTS[seed % 3 - 1]));
        }
        for (int i = 0; i < 500; i++) {
            int call = r.nextInt(3) == 0 ? A_TEXT : r.nextInt(A_TEXT);
            int[] a = {number(r), number(r), number(r), number(r)};
            String was = Check.told(x);
            String row = Check.rowOf(x);
            long got = answer(x, call, a);
            Check.due("call " + call + " once more", answer(twin, call, a), got);
            if (isRefused(call, got)) {
                Check.same("refused call " + call, Check.told(x), emptied(call, was));
                Check.same("ROW behind refused call " + call, Check.rowOf(x), row);
            } else if (isQuestion(call)) {
                Check.same("question " + call, Check.told(x), emptied(call, was));
            }
            Check.due("LEVEL is in ROOM", x.count(4) >= 0 && x.count(4) <= x.count(5), true);
        }
        Check.same("twins", Check.told(twin), Check.told(x));
    }

    private static int number(Random r) {
        switch (r.nextInt(8)) {
            case 0: return r.nextInt();
            case 1: return r.nextInt(1100) - 50;
            case 2: return new int[] {Integer.MIN_VALUE, Integer.MAX_VALUE, -1, -2, 31, 32, 33, 64}[r.nextInt(8)];
            default: return r.nextInt(8) - 1;
        }
    }

    /** house, rule, day, look, values read THE TEXT. */
    private static boolean reads(int call) {
        return call == 2 || call == 3 || call == 11 || call == 12 || call == 30;
    }

    private static boolean isRefused(int call, long got) {
        if (call == A_TEXT) {
            return false;
        }
        if (call == 1 || call == 42 || call == 43) {
            return got == 0;
        }
        if (call == 25) {
            return got == -1000;
        }
        return reads(call) ? got < 0 : got == -1 || call == 10 && got == -2 || call == 9 && got == -2;
    }

    private static boolean isQuestion(int call) {
        return call == 6 || call == 12 || call >= 14 && call <= 29 || call >= 31 && call <= 33 || call >= 36 && call <= 41 || call == 44;
    }

    /** What is told of an object whose THE TEXT is emptied, if the call reads it. */
    private static String emptied(int call, String was) {
        if (!reads(call)) {
            return was;
        }
        String[] parts = was.split(" ", 14);
        parts[12] = "0";
        return String.join(" ", parts);
    }

    /** The answer; a boolean counts 1 or 0, NoSuchElementException a number that is no answer. */
    private static long answer(RentByTheWheel x, int call, int[] a) {
        switch (call) {
            case 0: return x.sign(a[0]);
            case 1: return x.end(a[0]) ? 1 : 0;
            case 2: return x.house();
            case 3: return x.rule();
            case 4: return lodgerOrNone(x, a[0], a[1]);
            case 5: return debtOrNone(x, a[0]);
            case 6: return x.lifts(a[0], a[1]);
            case 7: return x.set(a[0], a[1]);
            case 8: return x.brake(a[0], a[1]);
            case 9: return x.sheet(a[0], a[1], a[2], a[3]);
            case 10: return x.quarter(a[0], a[1]);
            case 11: return x.day();
            case 12: return x.look();
            case 13: return x.undo();
            case 14: return x.fewest(a[0], a[1]);
            case 15: return x.driest(a[0], a[1]);
            case 16: return x.pays(a[0]);
            case 17: return x.strongest(a[0]);
            case 18: return x.roomy(a[0], a[1]);
            case 19: return x.even(a[0]);
            case 20: return x.thirst(a[0]);
            case 21: return x.bath(a[0], a[1]);
            case 22: return x.shares();
            case 23: return x.fairdue();
            case 24: return x.ahead(a[0]);
            case 25: return x.changed(a[0], a[1], a[2]);
            case 26: return x.lasts();
            case 27: return x.pairs(a[0]);
            case 28: return x.enough(a[0]);
            case 29: return x.step(a[0]);
            default: return answerFurther(x, call, a);
        }
    }

    private static long answerFurther(RentByTheWheel x, int call, int[] a) {
        switch (call) {
            case 30: return x.values();
            case 31: return x.allot();
            case 32: return x.rents(a[0]);
            case 33: return x.rests(a[0], a[1], a[2]);
            case 34: return x.peg(a[0], a[1]);
            case 35: return x.forget();
            case 36: return x.trod();
            case 37: return x.ways(a[0]);
            case 38: return x.braked(a[0], a[1]);
            case 39: return x.owes(a[0], a[1], a[2]);
            case 40: return x.fund(a[0], a[1], a[2]);
            case 41: return x.years(a[0], a[1]);
            case 42: return x.keep(a[0]) ? 1 : 0;
            case 43: return x.again(a[0]) ? 1 : 0;
            case 44: return x.count(a[0]);
            default:
                Check.text(x, TEXTS[(a[0] & 0xff) % TEXTS.length]);
                return rowOrNone(x, a[1]);
        }
    }

    private static long lodgerOrNone(RentByTheWheel x, int lodger, int what) {
        try {
            return x.lodger(lodger, what);
        } catch (NoSuchElementException e) {
            return -5000;
        }
    }

    private static long debtOrNone(RentByTheWheel x, int lodger) {
        try {
            return x.debt(lodger);
        } catch (NoSuchElementException e) {
            return -5000;
        }
    }

    private static long rowOrNone(RentByTheWheel x, int i) {
        try {
            return x.row(i);
        } catch (NoSuchElementException e) {
            return -5000;
        }
    }

    /** A new object is small, and calls behind it make next to nothing. */
    private static void room() {
        RentByTheWheel x = new RentByTheWheel();
        Check.house(x, "034:2;258:13;121:0;199:9;399:1;445:12");
        Check.rule(x, "l/9+t");
        Check.values(x, "1234/2345/3456/4567");
        x.set(0, 999);
        x.fewest(63, 12);
        long before = made();
        long sum = 0;
        for (int i = 0; i < 10; i++) {
            sum += x.fewest(63, 12) + x.driest(63, 12) + x.roomy(2, 60) + x.rents(20) + x.pairs(63) + x.years(i, 20) + x.trod() + x.quarter(1, 2);
            x.keep(0);
            x.again(0);
        }
        long bytes = made() - before;
        Check.due("bytes made by 100 calls (" + sum + ")", bytes < 2000, true);
        long beforeNew = made();
        new RentByTheWheel();
        Check.due("bytes of a new object", made() - beforeNew < 10000, true);
    }

    private static long made() {
        com.sun.management.ThreadMXBean threads = (com.sun.management.ThreadMXBean) ManagementFactory.getThreadMXBean();
        return threads.getThreadAllocatedBytes(Thread.currentThread().getId());
    }
}
