/** Promises 36 to 40. */
public final class PegTest {
    public static void main(String[] args) {
        peg();
        trod();
        ways();
        manyWays();
        braked();
        brakedByRule();
        Check.end();
    }

    private static void peg() {
        RentByTheWheel x = new RentByTheWheel();
        int[][] wrong = {{-1, 0}, {10, 0}, {0, -2}, {0, 19}};
        for (int[] w : wrong) {
            Check.due("peg(" + w[0] + ", " + w[1] + ")", x.peg(w[0], w[1]), -1);
        }
        Check.due("nothing was read", x.count(9), 0);
        for (int i = 1; i <= 12; i++) {
            Check.due("peg", x.peg(i % 10, i % 2 == 0 ? -1 : 18), i);
        }
        Check.due("12 are there", x.peg(0, 0), -2);
        Check.due("12 are there, and it can't be", x.peg(10, 0), -1);
        Check.due("count(9)", x.count(9), 12);
        Check.due("forget", x.forget(), 12);
        Check.due("forget once more", x.forget(), 0);
        Check.due("count(9) then", x.count(9), 0);
        Check.due("ways of none", x.ways(0), -1);
        Check.due("peg then", x.peg(0, 0), 1);
    }

    private static void trod() {
        RentByTheWheel x = Check.with(Check.THREE);
        Check.due("nothing was read", x, x.trod(), 1, 0, 0);
        x.peg(3, -1);
        Check.due("a, or a and b", x, x.trod(), 2, 3, 1);
        x.peg(2, 5);
        Check.due("a and c besides", x, x.trod(), 2, 7, 5);
        x.peg(2, -1);
        // c, a and c, b and c
        Check.due("three ways besides", x, x.trod(), 6, 7, 5);
        x.peg(4, -1);
        Check.due("it can't have been", x, x.trod(), 0, 0, 0);
        x.peg(3, -1);
        Check.due("nor with more", x, x.trod(), 0, 0, 0);
        x.forget();
        x.peg(2, 9);
        Check.due("b and c", x, x.trod(), 1, 6, 6);
        x.sheet(2, 3, 2, 0);
        Check.due("by PACES as they are", x, x.trod(), 1, 6, 6);
        x.sheet(2, 3, 3, 0);
        Check.due("which are others", x, x.trod(), 0, 0, 0);
    }

    private static void ways() {
        RentByTheWheel x = Check.with(Check.THREE);
        x.peg(3, -1);
        x.peg(2, -1);
        x.peg(0, -1);
        x.peg(0, 1);
        x.peg(5, 8);
        x.peg(3, 12);
        Check.due("3", x, x.ways(0), 2, 1, 3);
        Check.due("2", x, x.ways(1), 3, 4, 5, 6);
        Check.due("0", x, x.ways(2), 1, 0);
        Check.due("0, but it creaked", x, x.ways(3), 0);
        Check.due("5", x, x.ways(4), 1, 2);
        Check.due("3, by 12", x, x.ways(5), 1, 3);
        Check.due("none such", x, x.ways(6), -1, 3);
        Check.due("below 0", x, x.ways(-1), -1, 3);
    }

    private static void manyWays() {
        RentByTheWheel x = Check.with("011:0;011:0;011:0;011:0;011:0;011:0");
        for (int i = 0; i < 12; i++) {
            x.peg(1, i % 2 == 0 ? -1 : 2);
        }
        Check.due("the first ten of 21", x, x.ways(0), 21, 1, 2, 3, 4, 5, 6, 8, 9, 10, 12);
        Check.due("the first ten of 15", x, x.ways(1), 15, 3, 5, 6, 9, 10, 12, 17, 18, 20, 24);
        Check.due("a million at most", x, x.trod(), 1000000, 63, 0);
        x.forget();
        for (int i = 0; i < 4; i++) {
            x.peg(1, 2);
        }
        Check.due("15 to the power 4", x, x.trod(), 50625, 63, 0);
        x.peg(1, -1);
        Check.due("times 21", x, x.trod(), 1000000, 63, 0);
        x.peg(2, -1);
        Check.due("times 0", x, x.trod(), 0, 0, 0);
    }

    private static void braked() {
        RentByTheWheel x = Check.with(Check.THREE);
        Check.due("nobody did", x, x.braked(3, 9), 1, 0, 0);
        Check.due("a did", x, x.braked(3, 6), 1, 1, 1);
        Check.due("b did", x, x.braked(3, 3), 1, 2, 2);
        Check.due("both did", x, x.braked(3, 0), 1, 3, 3);
        Check.due("it can't be", x, x.braked(3, 5), 0, -1, 0);
        Check.due("999 neither", x, x.braked(3, 999), 0, -1, 0);
        Check.due("b alone", x, x.braked(2, 11), 1, 0, 0);
        Check.due("b alone did", x, x.braked(2, 0), 1, 2, 2);
        int[][] wrong = {{7, 1}, {0, 1}, {8, 1}, {-1, 1}, {9, 1}, {3, -1}, {3, 1000}};
        for (int[] w : wrong) {
            Check.due("braked(" + w[0] + ", " + w[1] + ")", x, x.braked(w[0], w[1]), -1, 2, 2);
        }
        x.brake(0, 1);
        Check.due("as told does not matter", x, x.braked(3, 9), 1, 0, 0);
        x.set(0, 5);
        Check.due("ROOM at most: not a, or nobody", x, x.braked(3, 5), 2, 0, 0);
        Check.due("ROOM at most: b did", x, x.braked(3, 3), 1, 2, 2);
        Check.due("more than ROOM", x, x.braked(3, 9), 0, -1, 0);
    }

    private static void brakedByRule() {
        RentByTheWheel x = Check.with(Check.THREE);
        x.set(2, 30);
        Check.rule(x, "l+q+4");
        Check.due("empty, in QUARTER 0", x, x.braked(5, 4), 2, 1, 0);
        x.quarter(-1, -1);
        Check.due("in QUARTER 1", x, x.braked(5, 5), 2, 1, 0);
        Check.due("in QUARTER 1: nobody", x, x.braked(6, 10), 1, 0, 0);
        Check.rule(x, "0");
        Check.due("all sets can have", x, x.braked(6, 0), 4, 0, 0);
        Check.due("of one", x, x.braked(4, 0), 2, 0, 0);
        Check.rule(x, "w*(n=2)");
        Check.due("two are on it, whoever braked", x, x.braked(3, 8), 1, 1, 1);
    }
}
