/** Boundary cases of promises 36 to 40: a test for each sentence that names one. */
public final class EdgesPegTest {
    public static void main(String[] args) {
        turnsAndWeights();
        pegRefused();
        twelveAreThere();
        allIsForgotten();
        nothingWasRead();
        aMillionAtMost();
        cantHaveBeen();
        someAndAll();
        firstTen();
        nobodyOneTwo();
        waysRefused();
        cisternWasEmpty();
        oneOrTwoTrod();
        leastAndSure();
        brakedRoom();
        brakedRefused();
        questions();
        Check.end();
    }

    private static String alike(int many) {
        return Edge.times("011:0;", many - 1) + "011:0";
    }

    // ---- promise 36

    /** TURNS (0 .. 9), WEIGHT (0 .. 18; NONE: not heard). */
    private static void turnsAndWeights() {
        RentByTheWheel x = Check.with("099:0;099:0");
        Check.due("0, not heard", x.peg(0, -1), 1);
        Check.due("9, not heard", x.peg(9, -1), 2);
        Check.due("0, 0", x.peg(0, 0), 3);
        Check.due("9, 18", x.peg(9, 18), 4);
        Check.due("9, 9", x.peg(9, 9), 5);
        Check.due("9, 17", x.peg(9, 17), 6);
        Check.due("count(9)", x.count(9), 6);
        Check.due("nobody", x, x.ways(0), 1, 0);
        Check.due("one or both", x, x.ways(1), 3, 1, 2, 3);
        Check.due("nobody weighs 0", x, x.ways(2), 1, 0);
        Check.due("both", x, x.ways(3), 1, 3);
        Check.due("one", x, x.ways(4), 2, 1, 2);
        Check.due("none", x, x.ways(5), 0);
    }

    /** NONE: others. */
    private static void pegRefused() {
        int[][] wrong = {{-1, 0}, {-1, -1}, {10, 0}, {10, -1}, {0, -2}, {0, 19}, {9, 19}, {-2, -2}, {10, 19}};
        for (int[] w : wrong) {
            Edge.refused("peg(" + w[0] + ", " + w[1] + ")", x -> x.peg(w[0], w[1]), -1);
            Edge.refused("peg(" + w[0] + ", " + w[1] + ") with 12", EdgesPegTest::full, x -> x.peg(w[0], w[1]), -1);
        }
        for (int far : Edge.FAR) {
            Edge.refused("peg(" + far + ", 0)", x -> x.peg(far, 0), -1);
            Edge.refused("peg(0, " + far + ")", x -> x.peg(0, far), -1);
        }
    }

    private static RentByTheWheel full() {
        RentByTheWheel x = Edge.busy();
        while (x.count(9) < 12) {
            x.peg(5, -1);
        }
        return x;
    }

    /** -2: 12 are there. */
    private static void twelveAreThere() {
        RentByTheWheel x = Check.with("011:0");
        for (int i = 1; i <= 12; i++) {
            Check.due("peg " + i, x.peg(1, 1), i);
        }
        Check.due("a thirteenth", x.peg(1, 1), -2);
        Check.due("what was read", x.count(9), 12);
        Edge.refused("peg(0, 0) with 12", EdgesPegTest::full, y -> y.peg(0, 0), -2);
        Edge.refused("peg(9, 18) with 12", EdgesPegTest::full, y -> y.peg(9, 18), -2);
        Edge.refused("peg(0, -1) with 12", EdgesPegTest::full, y -> y.peg(0, -1), -2);
        Check.due("the twelfth", x.ways(11), 1);
        Check.due("no thirteenth", x.ways(12), -1);
    }

    // ---- promise 37

    /** It is forgotten: how much there was. */
    private static void allIsForgotten() {
        RentByTheWheel x = full();
        Check.due("twelve", x.forget(), 12);
        Check.due("none", x.forget(), 0);
        Check.due("what was read", x.count(9), 0);
        Check.due("ways of none", x.ways(0), -1);
        Check.due("nothing was read", x, x.trod(), 1, 0, 0);
        Check.due("the first again", x.peg(0, 0), 1);
        Check.due("nothing older is there", x, x.trod(), 1, 0, 0);
        Check.due("one", x.forget(), 1);
        Check.due("at first", new RentByTheWheel().forget(), 0);
    }

    // ---- promise 38

    /** All that was read, of nothing: one way. */
    private static void nothingWasRead() {
        RentByTheWheel x = new RentByTheWheel();
        Check.due("nobody is there", x, x.trod(), 1, 0, 0);
        RentByTheWheel y = Check.with(Check.THREE);
        Check.due("three are", y, y.trod(), 1, 0, 0);
        x.peg(0, 0);
        Check.due("nobody trod", x, x.trod(), 1, 0, 0);
        x.peg(1, -1);
        Check.due("somebody trod, but nobody is there", x, x.trod(), 0, 0, 0);
    }

    /** A million at most. */
    private static void aMillionAtMost() {
        // five alike: 10 pairs of WEIGHT 2, and 15 sets of TURNS 1
        RentByTheWheel x = Check.with(alike(5));
        int product = 1;
        for (int i = 0; i < 6; i++) {
            x.peg(1, 2);
            product *= 10;
            Check.due("10 to the power " + (i + 1), x, x.trod(), product, 31, 0);
        }
        x.peg(1, 2);
        Check.due("10 to the power 7", x, x.trod(), 1000000, 31, 0);
        x.peg(0, 0);
        Check.due("and one more way", x, x.trod(), 1000000, 31, 0);
        x.peg(9, 0);
        Check.due("that can't have been", x, x.trod(), 0, 0, 0);
        RentByTheWheel y = Check.with(alike(6));
        for (int i = 0; i < 5; i++) {
            y.peg(1, 2);
        }
        Check.due("15 to the power 5", y, y.trod(), 759375, 63, 0);
        y.forget();
        for (int i = 0; i < 12; i++) {
            y.peg(1, -1);
        }
        Check.due("21 to the power 12", y, y.trod(), 1000000, 63, 0);
    }

    /** 0, 0 if it can't have been. */
    private static void cantHaveBeen() {
        RentByTheWheel x = Check.with(Check.THREE);
        x.peg(3, 4);
        Check.due("a", x, x.trod(), 1, 1, 1);
        x.peg(9, -1);
        Check.due("nobody has such a PACE", x, x.trod(), 0, 0, 0);
        x.forget();
        x.peg(0, 1);
        Check.due("no TURNS, but the floor creaked", x, x.trod(), 0, 0, 0);
        x.forget();
        x.peg(3, 0);
        Check.due("TURNS, but the floor was still", x, x.trod(), 0, 0, 0);
        x.peg(3, 4);
        Check.due("one that can't is enough", x, x.trod(), 0, 0, 0);
    }

    /** LODGERS that are in some way of some reading, that are in all ways of some reading. */
    private static void someAndAll() {
        RentByTheWheel x = Check.with(Check.THREE);
        x.peg(2, -1);
        Check.due("c, a and c, b and c", x, x.trod(), 3, 7, 4);
        x.peg(0, -1);
        Check.due("nobody besides", x, x.trod(), 3, 7, 4);
        x.peg(3, -1);
        Check.due("a, or a and b besides", x, x.trod(), 6, 7, 5);
        x.peg(5, 8);
        Check.due("b besides", x, x.trod(), 6, 7, 7);
        RentByTheWheel y = Check.with("011:0;011:0");
        y.peg(1, 1);
        Check.due("one of two", y, y.trod(), 2, 3, 0);
        y.peg(1, -1);
        Check.due("one of two, or both", y, y.trod(), 6, 3, 0);
        y.peg(1, 2);
        Check.due("both", y, y.trod(), 6, 3, 3);
    }

    // ---- promise 39

    /** The ROW: they (bits), rising (the first 10). */
    private static void firstTen() {
        RentByTheWheel x = Check.with(alike(4));
        x.peg(1, -1);
        Check.due("ten", x, x.ways(0), 10, 1, 2, 3, 4, 5, 6, 8, 9, 10, 12);
        Check.house(x, "021:0");
        Check.due("fourteen of five", x, x.ways(0), 14, 1, 2, 3, 4, 5, 6, 8, 9, 10, 12);
        RentByTheWheel y = Check.with("021:0;011:0;011:0;011:0");
        y.peg(1, -1);
        Check.due("nine", y, y.ways(0), 9, 2, 3, 4, 5, 6, 8, 9, 10, 12);
        RentByTheWheel z = Check.with(alike(6));
        z.peg(1, -1);
        z.peg(1, 2);
        Check.due("21", z, z.ways(0), 21, 1, 2, 3, 4, 5, 6, 8, 9, 10, 12);
        Check.due("15", z, z.ways(1), 15, 3, 5, 6, 9, 10, 12, 17, 18, 20, 24);
    }

    /** Sets of LODGERS (nobody, one, two). */
    private static void nobodyOneTwo() {
        RentByTheWheel x = Check.with("011:0;011:0;013:0");
        x.peg(0, -1);
        x.peg(1, 3);
        x.peg(1, 4);
        x.peg(1, 5);
        Check.due("nobody", x, x.ways(0), 1, 0);
        Check.due("one, not three", x, x.ways(1), 1, 4);
        Check.due("two", x, x.ways(2), 2, 5, 6);
        Check.due("never three", x, x.ways(3), 0);
        RentByTheWheel y = new RentByTheWheel();
        y.peg(0, -1);
        y.peg(1, -1);
        Check.due("nobody is there", y, y.ways(0), 1, 0);
        Check.due("nobody is there, and the peg jumped", y, y.ways(1), 0);
    }

    /** At reading i (0 ..). NONE: none such. */
    private static void waysRefused() {
        // two were read there
        for (int i : new int[] {-1, -2, 2, 3, 12, 13, 32}) {
            Edge.refused("ways(" + i + ")", x -> x.ways(i), -1);
        }
        for (int far : Edge.FAR) {
            Edge.refused("ways(" + far + ")", x -> x.ways(far), -1);
        }
        Edge.refused("ways(12) of 12", EdgesPegTest::full, x -> x.ways(12), -1);
        RentByTheWheel y = Edge.busy();
        Check.due("the first", y.ways(0) >= 0, true);
        Check.due("the second", y.ways(1) >= 0, true);
        Check.due("the twelfth", full().ways(11) >= 0, true);
    }

    // ---- promise 40

    /** THE CISTERN was empty; a QUARTER like NOW; WANTS left aside; BRAKES as they are told do not matter. */
    private static void cisternWasEmpty() {
        RentByTheWheel x = Check.with("011:9");
        Check.rule(x, "l+q+7");
        x.set(2, 20);
        Check.due("by LEVEL 0", x, x.braked(1, 7), 1, 0, 0);
        Check.due("it braked", x, x.braked(1, 0), 1, 1, 1);
        Check.due("not by LEVEL as it is", x, x.braked(1, 27), 0, -1, 0);
        x.brake(0, 1);
        Check.due("told to brake", x, x.braked(1, 7), 1, 0, 0);
        Check.day(x, Edge.times(".", 11));
        Check.due("in QUARTER 11", x, x.braked(1, 18), 1, 0, 0);
        x.quarter(-1, -1);
        Check.due("in QUARTER 0 of the next DAY", x, x.braked(1, 7), 1, 0, 0);
        Check.house(x, "011:9");
        x.set(2, 20);
        Check.due("two, both by LEVEL 0", x, x.braked(3, 14), 1, 0, 0);
        Check.due("two, one of whom braked", x, x.braked(3, 7), 2, 1, 0);
    }

    /** Just one or two (told as bits) trod. */
    private static void oneOrTwoTrod() {
        RentByTheWheel x = Check.with(alike(6));
        Check.rule(x, "n*5");
        for (int one = 0; one < 6; one++) {
            Check.due("one", x, x.braked(1 << one, 5), 1, 0, 0);
            for (int other = 0; other < one; other++) {
                int those = 1 << one | 1 << other;
                Check.due("two", x, x.braked(those, 20), 1, 0, 0);
                Check.due("one of two braked", x, x.braked(those, 10), 2, 1 << other, 0);
                Check.due("both braked", x, x.braked(those, 0), 1, those, those);
            }
        }
        Check.due("nobody", x.braked(0, 0), -1);
        Check.due("three", x.braked(7, 0), -1);
        Check.due("six", x.braked(63, 0), -1);
        Check.due("a seventh", x.braked(64, 0), -1);
        Check.due("one and a seventh", x.braked(65, 0), -1);
    }

    /** How many; the ROW: the least (bits; NONE), LODGERS (bits) that did in all such sets (0 without). */
    private static void leastAndSure() {
        RentByTheWheel x = Check.with("011:0;021:0;031:0");
        Check.rule(x, "0");
        Check.due("any of two: nobody is the least", x, x.braked(6, 0), 4, 0, 0);
        Check.due("any of one", x, x.braked(4, 0), 2, 0, 0);
        Check.due("none", x, x.braked(6, 1), 0, -1, 0);
        Check.rule(x, "(p=2)*7");
        Check.due("b did, c or not", x, x.braked(6, 0), 2, 2, 2);
        Check.due("b did not, c or not", x, x.braked(6, 7), 2, 0, 0);
        Check.rule(x, "7");
        Check.due("b or c", x, x.braked(6, 7), 2, 2, 0);
    }

    /** LEVEL was v (0 .. 999), in ROOM. */
    private static void brakedRoom() {
        RentByTheWheel x = Check.with("011:0;011:0");
        Check.rule(x, "99");
        Check.due("ROOM 50, 50", x, x.braked(3, 50), 3, 0, 0);
        Check.due("ROOM 50, 99", x, x.braked(3, 99), 0, -1, 0);
        x.set(0, 999);
        Check.due("ROOM 999, 198", x, x.braked(3, 198), 1, 0, 0);
        Check.due("ROOM 999, 99", x, x.braked(3, 99), 2, 1, 0);
        Check.due("ROOM 999, 999", x, x.braked(3, 999), 0, -1, 0);
        Check.due("ROOM 999, 0", x, x.braked(3, 0), 1, 3, 3);
        x.set(0, 198);
        Check.due("ROOM 198", x, x.braked(3, 198), 1, 0, 0);
        x.set(0, 197);
        Check.due("ROOM 197, 197", x, x.braked(3, 197), 1, 0, 0);
    }

    /** NONE: others. */
    private static void brakedRefused() {
        for (int those : new int[] {0, 7, 8, 9, 16, -1, -2, 1 << 31}) {
            Edge.refused("braked(" + those + ", 0)", x -> x.braked(those, 0), -1);
        }
        for (int v : new int[] {-1, -2, 1000, 1001}) {
            Edge.refused("braked(1, " + v + ")", x -> x.braked(1, v), -1);
            Edge.refused("braked(3, " + v + ")", x -> x.braked(3, v), -1);
        }
        for (int far : Edge.FAR) {
            Edge.refused("braked(" + far + ", 0)", x -> x.braked(far, 0), -1);
            Edge.refused("braked(1, " + far + ")", x -> x.braked(1, far), -1);
        }
    }

    /** Questions change nothing. */
    private static void questions() {
        Edge.question("trod", x -> x.trod());
        Edge.question("ways", x -> x.ways(0));
        Edge.question("braked", x -> x.braked(3, 0));
    }
}
