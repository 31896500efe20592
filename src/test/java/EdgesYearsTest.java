import java.math.BigInteger;

/** Boundary cases of promises 41 to 43: a test for each sentence that names one. */
public final class EdgesYearsTest {
    private static final int[] WRONG_LODGERS = {-1, -2, 3, 6, 31, 32, 64};

    public static void main(String[] args) {
        firstInAnyCase();
        lowestTerms();
        nothingIsOwed();
        twelveDays();
        owesRefused();
        wholeTurns();
        paidAheadCounts();
        quartersAlone();
        fundRefused();
        yearsOfNobody();
        mostOften();
        drawsAsInts();
        thatOneTreads();
        oneToTwentyDays();
        yearsRefused();
        questions();
        Check.end();
    }

    private static RentByTheWheel one(int storey, int pace, int due) {
        RentByTheWheel x = Check.with("" + storey + pace + "1:0");
        x.set(1, due);
        return x;
    }

    // ---- promise 41

    /** By p tenths (0 .. 10; the first DUE is owed in any case). */
    private static void firstInAnyCase() {
        RentByTheWheel x = one(2, 1, 3);
        for (int n = 1; n <= 12; n++) {
            Check.due("p 0, n " + n, x, x.owes(0, n, 0), 0, 9, 1);
            Check.due("p 10, n " + n, x, x.owes(0, n, 10), 0, 9 * n, 1);
        }
        for (int p = 0; p <= 10; p++) {
            Check.due("n 1, p " + p, x, x.owes(0, 1, p), 0, 9, 1);
        }
    }

    /** As a fraction, in lowest terms. */
    private static void lowestTerms() {
        RentByTheWheel x = one(0, 1, 1);
        int[] upper = {11, 6, 13, 7, 3, 8, 17, 9, 19};
        int[] lower = {10, 5, 10, 5, 2, 5, 10, 5, 10};
        for (int p = 1; p <= 9; p++) {
            Check.due("1 and " + p + " tenths", x, x.owes(0, 2, p), 0, upper[p - 1], lower[p - 1]);
        }
        Check.due("1 + 1/10 + 1/100", x, x.owes(0, 3, 1), 0, 111, 100);
        Check.due("1 + 1/2 + 1/4", x, x.owes(0, 3, 5), 0, 7, 4);
        RentByTheWheel y = one(4, 1, 1);
        Check.due("5 and a half of 5", y, y.owes(0, 2, 5), 0, 15, 2);
        Check.due("5 and a fifth of 5", y, y.owes(0, 2, 2), 0, 6, 1);
    }

    /** 0 by 1. */
    private static void nothingIsOwed() {
        for (int n = 1; n <= 12; n++) {
            RentByTheWheel x = one(5, 1, 0);
            for (int p = 0; p <= 10; p++) {
                Check.due("DUE 0, n " + n + ", p " + p, x, x.owes(0, n, p), 0, 0, 1);
            }
        }
    }

    /** The next n DAYS (1 .. 12): each by what it is, and none goes round. */
    private static void twelveDays() {
        for (int n = 1; n <= 12; n++) {
            RentByTheWheel x = one(5, 1, 9);
            for (int p = 0; p <= 10; p++) {
                BigInteger sum = BigInteger.ZERO;
                for (int day = 0; day < n; day++) {
                    BigInteger part = BigInteger.valueOf(54).multiply(BigInteger.valueOf(p).pow(day));
                    sum = sum.add(part.multiply(BigInteger.TEN.pow(n - 1 - day)));
                }
                BigInteger whole = BigInteger.TEN.pow(n - 1);
                BigInteger common = sum.gcd(whole);
                Check.due("54, n " + n + ", p " + p, x, x.owes(0, n, p), 0, sum.divide(common).longValueExact(), whole.divide(common).longValueExact());
                BigInteger[] turns = sum.divideAndRemainder(whole);
                int up = turns[0].intValueExact() + (turns[1].signum() > 0 ? 1 : 0);
                Check.due("fund of 54, n " + n + ", p " + p, x, x.fund(0, n, p), up, up);
            }
        }
    }

    /** NONE: others. */
    private static void owesRefused() {
        int[][] wrong = {{0, 0, 5}, {0, -1, 5}, {0, 13, 5}, {0, 14, 5}, {0, 1, -1}, {0, 1, 11}, {0, 12, 11}, {2, 0, 0}};
        for (int[] w : wrong) {
            Edge.refused("owes(" + w[0] + ", " + w[1] + ", " + w[2] + ")", x -> x.owes(w[0], w[1], w[2]), -1);
        }
        for (int lodger : WRONG_LODGERS) {
            Edge.refused("owes(" + lodger + ", 1, 1)", x -> x.owes(lodger, 1, 1), -1);
        }
        for (int far : Edge.FAR) {
            Edge.refused("owes(" + far + ", 1, 1)", x -> x.owes(far, 1, 1), -1);
            Edge.refused("owes(0, " + far + ", 1)", x -> x.owes(0, far, 1), -1);
            Edge.refused("owes(0, 1, " + far + ")", x -> x.owes(0, 1, far), -1);
        }
    }

    // ---- promise 42

    /** The fewest TURNS (whole). */
    private static void wholeTurns() {
        RentByTheWheel x = one(0, 1, 1);
        Check.due("1", x, x.fund(0, 1, 9), 1, 1);
        Check.due("11/10", x, x.fund(0, 2, 1), 2, 2);
        Check.due("19/10", x, x.fund(0, 2, 9), 2, 2);
        Check.due("2", x, x.fund(0, 2, 10), 2, 2);
        Check.due("a little more than 1", x, x.fund(0, 12, 1), 2, 2);
        Check.due("a little less than 2", x, x.fund(0, 12, 5), 2, 2);
        Check.due("1 in any case", x, x.fund(0, 12, 0), 1, 1);
        x.set(1, 0);
        Check.due("nothing", x, x.fund(0, 12, 10), 0, 0);
    }

    /** That and DEBT together (what is paid ahead counts); 0 at least. */
    private static void paidAheadCounts() {
        RentByTheWheel x = one(0, 1, 3);
        // 3 and a half of it are 9/2
        int[] funds = {5, 4, 3, 2, 1, 0, 0};
        for (int paid = 0; paid < funds.length; paid++) {
            Check.due(paid + " paid ahead of 9/2", x, x.fund(0, 2, 5), funds[paid], funds[paid]);
            Check.due(paid + " paid ahead of 3", x, x.fund(0, 1, 0), Math.max(0, 3 - paid), Math.max(0, 3 - paid));
            x.quarter(0, -1);
        }
        RentByTheWheel y = one(0, 1, 3);
        Check.day(y, Edge.times(".", 24));
        Check.due("6 are owed besides", y, y.fund(0, 2, 5), 11, 11);
        y.set(1, 0);
        Check.due("6 are owed alone", y, y.fund(0, 12, 10), 6, 6);
    }

    /** The ROW: in how many QUARTERS alone, begun ones too. */
    private static void quartersAlone() {
        int[] dues = {0, 1, 4, 5, 6, 9};
        int[] quarters = {0, 1, 1, 1, 2, 2};
        for (int i = 0; i < dues.length; i++) {
            RentByTheWheel x = one(0, 5, dues[i]);
            Check.due(dues[i] + " by PACE 5", x, x.fund(0, 1, 0), dues[i], quarters[i]);
        }
        RentByTheWheel y = one(5, 9, 9);
        Check.due("54 by PACE 9", y, y.fund(0, 1, 0), 54, 6);
        Check.due("648 by PACE 9", y, y.fund(0, 12, 10), 648, 72);
    }

    /** NONE: likewise. */
    private static void fundRefused() {
        int[][] wrong = {{0, 0, 5}, {0, -1, 5}, {0, 13, 5}, {0, 14, 5}, {0, 1, -1}, {0, 1, 11}, {0, 12, 11}, {2, 0, 0}};
        for (int[] w : wrong) {
            Edge.refused("fund(" + w[0] + ", " + w[1] + ", " + w[2] + ")", x -> x.fund(w[0], w[1], w[2]), -1);
        }
        for (int lodger : WRONG_LODGERS) {
            Edge.refused("fund(" + lodger + ", 1, 1)", x -> x.fund(lodger, 1, 1), -1);
        }
        for (int far : Edge.FAR) {
            Edge.refused("fund(" + far + ", 1, 1)", x -> x.fund(far, 1, 1), -1);
            Edge.refused("fund(0, " + far + ", 1)", x -> x.fund(0, far, 1), -1);
            Edge.refused("fund(0, 1, " + far + ")", x -> x.fund(0, 1, far), -1);
        }
    }

    // ---- promise 43

    /** A DRAW of how many LODGERS there are and 1: of nobody, nobody treads. */
    private static void yearsOfNobody() {
        RentByTheWheel x = new RentByTheWheel();
        x.set(2, 7);
        for (int seed : new int[] {0, 1, -1, Integer.MIN_VALUE, Integer.MAX_VALUE}) {
            Check.due("seed " + seed, x, x.years(seed, 20), 0, 7, -1, 0);
        }
    }

    /** Who was the most often (of equal ones the first; NONE: nobody was), how often. */
    private static void mostOften() {
        RentByTheWheel x = Check.with("011:0;011:0");
        x.set(2, 3);
        Check.rule(x, "0");
        Check.due("nobody was", x, x.years(9, 20), 0, 3, -1, 0);
        RentByTheWheel y = Check.with("011:0;011:9;011:9");
        Check.rule(y, "0");
        Check.due("two were as often", y, y.years(9, 20), 480, 0, 1, 240);
        RentByTheWheel z = Check.with("011:90;011:9;011:0");
        Check.rule(z, "0");
        Check.due("the second was the most often", z, z.years(9, 1), 18, 0, 1, 12);
        // what was DRY ahead does not count: a is DRY in the first QUARTER, c in all but it
        RentByTheWheel w = Check.with("011:900000000000;011:0;011:099999999999");
        Check.rule(w, "0");
        w.quarter(-1, -1);
        w.quarter(-1, -1);
        Check.due("the third was", w, w.years(9, 1), 12, 0, 2, 11);
        Check.due("DRY stays", w.lodger(2, 4), 1);
    }

    /** R = R times 1103515245 + 12345 (as ints; R is seed at first), (R without sign, by 65536) % n. */
    private static void drawsAsInts() {
        int[] seeds = {0, 1, -1, 2, -2, 12345, 65535, 65536, 0x7fff0000, Integer.MAX_VALUE, Integer.MIN_VALUE, Integer.MIN_VALUE + 1};
        for (int many = 1; many <= 6; many++) {
            for (int seed : seeds) {
                // what each lifts in each QUARTER is its own, so that LEVEL tells of all draws
                StringBuilder house = new StringBuilder("011:0");
                for (int i = 2; i <= many; i++) {
                    house.append(";01").append(i).append(":0");
                }
                RentByTheWheel x = Check.with(house.toString());
                x.set(0, 999);
                Check.rule(x, "w*(q+1)");
                int level = 0;
                long r = seed & 0xffffffffL;
                for (int q = 0; q < 12; q++) {
                    r = (r * 1103515245L + 12345L) & 0xffffffffL;
                    int who = (int) (r / 65536 % (many + 1));
                    level += who == many ? 0 : (who + 1) * (q + 1);
                }
                Check.due("seed " + seed + " of " + many, x, x.years(seed, 1), 0, level, -1, 0);
            }
        }
    }

    /** That one treads, alone. */
    private static void thatOneTreads() {
        RentByTheWheel x = Check.with("011:0");
        RentByTheWheel y = Check.with("011:0");
        Check.rule(x, "1");
        Check.rule(y, "n");
        for (int seed = 0; seed < 5; seed++) {
            x.years(seed, 2);
            Check.due("one on THE WHEEL at most", y, y.years(seed, 2), 0, x.row(0), -1, 0);
        }
    }

    /** n DAYS (1 .. 20), from now. */
    private static void oneToTwentyDays() {
        RentByTheWheel x = Check.with("011:1");
        Check.rule(x, "0");
        for (int n = 1; n <= 20; n++) {
            Check.due("n " + n, x, x.years(n, n), 12 * n, 0, 0, 12 * n);
        }
        x.set(2, 11);
        Check.due("11 are there", x, x.years(5, 1), 1, 0, 0, 1);
        x.set(2, 12);
        Check.due("12 are there", x, x.years(5, 1), 0, 0, -1, 0);
        // a DAY from now, not to the end of this one
        x.quarter(-1, -1);
        Check.due("11 are left", x, x.years(5, 1), 1, 0, 0, 1);
    }

    /** NONE: another n. */
    private static void yearsRefused() {
        for (int n : new int[] {0, -1, 21, 22}) {
            Edge.refused("years(1, " + n + ")", x -> x.years(1, n), -1);
        }
        for (int far : Edge.FAR) {
            Edge.refused("years(1, " + far + ")", x -> x.years(1, far), -1);
        }
    }

    /** Questions change nothing. */
    private static void questions() {
        Edge.question("owes", x -> x.owes(1, 12, 9));
        Edge.question("fund", x -> x.fund(1, 12, 9));
        Edge.question("years", x -> x.years(7, 20));
    }
}
