/** Boundary cases of promises 29 to 31 and 35: a test for each sentence that names one. */
public final class EdgesPairTest {
    private static final int[] WRONG_BITS = {-1, -8, 8, 9, 15, 16, 64, 1 << 31};
    private static final int[] WRONG_LODGERS = {-1, -2, 3, 6, 31, 32, 64};
    private static final String SIX = "011:0;021:0;031:0;041:0;051:0;061:0";

    public static void main(String[] args) {
        oneIsLeftOver();
        leastRowOfPairs();
        pairsRefused();
        justEnough();
        noPairs();
        enoughRefused();
        stepOfEqual();
        lessOrMore();
        stepOfOne();
        stepRefused();
        halfIsCut();
        asGoodIsNotMore();
        noWay();
        restsTimes();
        restsRefused();
        questions();
        Check.end();
    }

    // ---- promise 29

    /** Parted in pairs (one is left over, if they are odd); the ROW: for each LODGER with whom (NONE). */
    private static void oneIsLeftOver() {
        RentByTheWheel x = Check.with(SIX);
        Check.rule(x, "t");
        Check.due("nobody", x, x.pairs(0), 0, -1, -1, -1, -1, -1, -1);
        for (int i = 0; i < 6; i++) {
            Check.due("one alone", x, x.pairs(1 << i), 0, -1, -1, -1, -1, -1, -1);
        }
        Check.due("the first and the last", x, x.pairs(33), 2, 5, -1, -1, -1, -1, 0);
        Check.due("three: the slowest is left over", x, x.pairs(7), 4, -1, 2, 1, -1, -1, -1);
        Check.due("five", x, x.pairs(62), 16, -1, -1, 3, 2, 5, 4);
        Check.due("six", x, x.pairs(63), 18, 1, 0, 3, 2, 5, 4);
        x.sheet(2, 6, 6, -1);
        Check.due("the slowest comes last", x, x.pairs(31), 16, 1, 0, 3, 2, -1, -1);
        Check.due("the slowest of three comes last", x, x.pairs(21), 8, 2, -1, 0, -1, -1, -1);
        x.sheet(2, 6, 1, 1);
        // none is left over of four, though one pair alone would lift as much
        Check.rule(x, "t*(t>2)");
        Check.due("four", x, x.pairs(15), 6, 1, 0, 3, 2, -1, -1);
        RentByTheWheel y = new RentByTheWheel();
        Check.due("there is nobody", y, y.pairs(0), 0);
        RentByTheWheel z = Check.with("011:0");
        Check.due("there is one", z, z.pairs(1), 0, -1);
    }

    /** Of as good ones the least row. */
    private static void leastRowOfPairs() {
        RentByTheWheel x = Check.with(SIX);
        Check.rule(x, "7");
        Check.due("two", x, x.pairs(48), 14, -1, -1, -1, -1, 5, 4);
        Check.due("three: the first is left over", x, x.pairs(7), 14, -1, 2, 1, -1, -1, -1);
        Check.due("three, not the first", x, x.pairs(56), 14, -1, -1, -1, -1, 5, 4);
        Check.due("four", x, x.pairs(15), 28, 1, 0, 3, 2, -1, -1);
        Check.due("five", x, x.pairs(31), 28, -1, 2, 1, 4, 3, -1);
        Check.due("six", x, x.pairs(63), 42, 1, 0, 3, 2, 5, 4);
        Check.rule(x, "0");
        Check.due("nothing is lifted", x, x.pairs(63), 0, 1, 0, 3, 2, 5, 4);
        Check.rule(x, "99");
        Check.due("the most is", x, x.pairs(63), 594, 1, 0, 3, 2, 5, 4);
    }

    /** NONE: bits of none such. */
    private static void pairsRefused() {
        for (int those : WRONG_BITS) {
            Edge.refused("pairs(" + those + ")", x -> x.pairs(those), -1);
        }
        for (int far : Edge.FAR) {
            Edge.refused("pairs(" + far + ")", x -> x.pairs(far), -1);
        }
        Check.due("of nobody", new RentByTheWheel().pairs(1), -1);
        Check.due("a seventh", Check.with(SIX).pairs(64), -1);
    }

    // ---- promise 30

    /** v (0 .. 198) or more together; the ROW: the first one (the lesser, the other; none without), the most that any LIFT. */
    private static void justEnough() {
        RentByTheWheel x = Check.with("051:0;021:0;091:0");
        Check.rule(x, "p");
        Check.due("0: all", x, x.enough(0), 3, 0, 1, 14);
        Check.due("7: all", x, x.enough(7), 3, 0, 1, 14);
        Check.due("8: not a and b", x, x.enough(8), 2, 0, 2, 14);
        Check.due("11", x, x.enough(11), 2, 0, 2, 14);
        Check.due("12: not b and c", x, x.enough(12), 1, 0, 2, 14);
        Check.due("14", x, x.enough(14), 1, 0, 2, 14);
        Check.due("15: none", x, x.enough(15), 0, 14);
        Check.due("198: none", x, x.enough(198), 0, 14);
        Check.rule(x, "99");
        Check.due("198: all", x, x.enough(198), 3, 0, 1, 198);
        Check.rule(x, "99-(p=2)");
        Check.due("198: one", x, x.enough(198), 1, 0, 2, 198);
        RentByTheWheel y = Check.with(SIX);
        Check.due("all pairs of six", y.enough(0), 15);
        Check.rule(y, "p");
        Check.due("the last pair alone", y, y.enough(11), 1, 4, 5, 11);
    }

    /** NONE: there are no pairs. */
    private static void noPairs() {
        RentByTheWheel x = new RentByTheWheel();
        Check.due("nobody", x, x.enough(0), 0, -1);
        Check.due("nobody, 198", x, x.enough(198), 0, -1);
        RentByTheWheel y = Check.with("099:0");
        Check.due("one", y, y.enough(0), 0, -1);
        Check.house(y, "099:0");
        Check.rule(y, "0");
        Check.due("two who lift nothing", y, y.enough(0), 1, 0, 1, 0);
        Check.due("two who lift nothing, 1", y, y.enough(1), 0, 0);
    }

    /** NONE: another v. */
    private static void enoughRefused() {
        for (int v : new int[] {-1, -2, 199, 200}) {
            Edge.refused("enough(" + v + ")", x -> x.enough(v), -1);
        }
        for (int far : Edge.FAR) {
            Edge.refused("enough(" + far + ")", x -> x.enough(far), -1);
        }
    }

    // ---- promise 31

    /** The other one with whom one LIFTS the most together; of equal ones the first. */
    private static void stepOfEqual() {
        RentByTheWheel x = Check.with(SIX);
        Check.rule(x, "7");
        for (int i = 0; i < 6; i++) {
            Check.due("all alike, for " + i, x, x.step(i), i == 0 ? 1 : 0, 14, 0);
        }
        Check.rule(x, "p");
        for (int i = 0; i < 6; i++) {
            int other = i == 5 ? 4 : 5;
            Check.due("the fastest, for " + i, x, x.step(i), other, i + 1 + other + 1, 0);
        }
        Check.rule(x, "0");
        Check.due("nothing is lifted", x, x.step(3), 0, 0, 0);
        Check.rule(x, "99");
        Check.due("the most is", x, x.step(0), 1, 198, 0);
        x.brake(1, 1);
        Check.due("b brakes", x, x.step(0), 2, 198, 0);
        Check.due("b itself", x, x.step(1), 0, 99, 0);
    }

    /** How much less or more (more: below 0) than both LIFT alone. */
    private static void lessOrMore() {
        RentByTheWheel x = Check.with("021:0;051:0");
        Check.rule(x, "t");
        Check.due("less together", x, x.step(0), 1, 4, 3);
        Check.rule(x, "p");
        Check.due("as much together", x, x.step(0), 1, 7, 0);
        Check.rule(x, "n");
        Check.due("more together", x, x.step(0), 1, 4, -2);
        Check.rule(x, "(n=2)*99");
        Check.due("nothing alone", x, x.step(1), 0, 198, -198);
        Check.rule(x, "(n=1)*99");
        Check.due("nothing together", x, x.step(1), 0, 0, 198);
    }

    /** -2: there is none. */
    private static void stepOfOne() {
        RentByTheWheel x = Check.with("011:0");
        Check.due("one alone", x.step(0), -2);
        Check.due("none such of one", x.step(1), -1);
        Check.due("none such of nobody", new RentByTheWheel().step(0), -1);
        Check.house(x, "011:0");
        Check.due("two", x, x.step(0), 1, 0, 0);
        Check.due("two, the other", x, x.step(1), 0, 0, 0);
    }

    /** NONE: none such. */
    private static void stepRefused() {
        for (int lodger : WRONG_LODGERS) {
            Edge.refused("step(" + lodger + ")", x -> x.step(lodger), -1);
        }
        for (int far : Edge.FAR) {
            Edge.refused("step(" + far + ")", x -> x.step(far), -1);
        }
    }

    // ---- promise 35

    /** Each gets half (cut) of the pails that are lifted in all, n times. */
    private static void halfIsCut() {
        RentByTheWheel x = Check.with("011:0;091:0");
        Check.rule(x, "(n=1)*(p=1)*3");
        // the first alone: half of 3 is 1, times 1, less 1; times 2, less 1
        Check.due("half of 3", x, x.rests(0, 1, 1), 1 | 2, 0, 0);
        Check.due("half of 3, twice", x, x.rests(0, 1, 2), 2, 1, 2);
        Check.rule(x, "(n=1)*(p=1)*4");
        Check.due("half of 4", x, x.rests(0, 1, 1), 2, 1, 2);
        Check.rule(x, "(n=1)*(p=1)");
        Check.due("half of 1, nine times", x, x.rests(0, 1, 9), 1, 0, 0);
        // in all: 3 and 3 of both are 6, of which each gets 3, not 1 and 1
        Check.rule(x, "(n=2)*3");
        Check.due("half of 3 and 3", x, x.rests(0, 1, 1), 1 | 8, 0, 0);
    }

    /** Neither would get more by doing the other thing alone: as much is not more. */
    private static void asGoodIsNotMore() {
        RentByTheWheel x = Check.with("011:0;011:0");
        Check.rule(x, "(n=1)*2");
        // alone: 1 less 1 for who treads, 1 for the other; both: -1 each
        Check.due("neither, or one of them", x, x.rests(0, 1, 1), 1 | 2 | 4, 0, 0);
        Check.rule(x, "(n=1)*3+(n=2)*2");
        // alone: 0 and 1; both: 1 and 1: whoever is alone draws the other in, or not
        Check.due("all ways", x, x.rests(0, 1, 1), 15, 0, 0);
        Check.rule(x, "0");
        Check.due("nothing is lifted", x, x.rests(0, 1, 9), 1, 0, 0);
        Check.rule(x, "99");
        Check.due("the most is lifted", x, x.rests(0, 1, 9), 8, 99 * 9 - 1, 99 * 9 - 1);
    }

    /** The ROW: what the first, the second get in the first of these (none without). */
    private static void noWay() {
        RentByTheWheel x = Check.with("011:0;091:0");
        Check.rule(x, "(p=1)*n*4+(p=9)*(n=1)*10");
        x.thirst(1);
        Check.due("no way", x, x.rests(0, 1, 1), 0);
        Check.due("no way, the other way round", x, x.rests(1, 0, 1), 0);
        Check.rule(x, "(2-n)*20");
        Check.due("the first way of two", x, x.rests(0, 1, 1), 6, 9, 10);
        Check.due("the first way of two, the other way round", x, x.rests(1, 0, 1), 6, 1, 10);
    }

    /** n (1 .. 9) times. */
    private static void restsTimes() {
        RentByTheWheel x = Check.with("051:0;051:0");
        Check.rule(x, "(n=1)*2");
        // alone: n less 5
        for (int n = 1; n <= 9; n++) {
            int ways = n < 5 ? 1 : n == 5 ? 7 : 6;
            Check.due("n " + n, x, x.rests(0, 1, n), ways, n <= 5 ? 0 : n - 5, n <= 5 ? 0 : n);
        }
    }

    /** NONE: others. */
    private static void restsRefused() {
        int[][] wrong = {{0, 0, 1}, {2, 2, 1}, {0, 3, 1}, {3, 0, 1}, {-1, 0, 1}, {0, -1, 1}, {-1, -1, 1}, {0, -2, 1}, {0, 1, 0}, {0, 1, -1}, {0, 1, 10},
            {0, 32, 1}};
        for (int[] w : wrong) {
            Edge.refused("rests(" + w[0] + ", " + w[1] + ", " + w[2] + ")", x -> x.rests(w[0], w[1], w[2]), -1);
        }
        for (int far : Edge.FAR) {
            Edge.refused("rests(" + far + ", 0, 1)", x -> x.rests(far, 0, 1), -1);
            Edge.refused("rests(0, " + far + ", 1)", x -> x.rests(0, far, 1), -1);
            Edge.refused("rests(0, 1, " + far + ")", x -> x.rests(0, 1, far), -1);
        }
    }

    /** Questions change nothing. */
    private static void questions() {
        Edge.question("pairs", x -> x.pairs(7));
        Edge.question("enough", x -> x.enough(9));
        Edge.question("step", x -> x.step(0));
        Edge.question("rests", x -> x.rests(0, 1, 5));
    }
}
