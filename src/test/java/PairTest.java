/** Promises 29 to 31 and 35. */
public final class PairTest {
    public static void main(String[] args) {
        pairs();
        pairsOfSix();
        enough();
        step();
        rests();
        restsTogether();
        Check.end();
    }

    private static void pairs() {
        RentByTheWheel x = Check.with(Check.THREE);
        Check.due("all: c is left over", x, x.pairs(7), 9, 1, 0, -1);
        Check.due("a and b", x, x.pairs(3), 9, 1, 0, -1);
        Check.due("a and c", x, x.pairs(5), 3, 2, -1, 0);
        Check.due("b and c", x, x.pairs(6), 5, -1, 2, 1);
        Check.due("c", x, x.pairs(4), 0, -1, -1, -1);
        Check.due("nobody", x, x.pairs(0), 0, -1, -1, -1);
        Check.due("none such", x, x.pairs(8), -1, -1, -1, -1);
        Check.due("below 0", x, x.pairs(-1), -1, -1, -1, -1);
        RentByTheWheel y = new RentByTheWheel();
        Check.due("there are none", y, y.pairs(0), 0);
    }

    private static void pairsOfSix() {
        // by paces 1 .. 6 and TURNS: like with like is the most, 1 + 3 + 5 twice
        RentByTheWheel x = Check.with("011:0;021:0;031:0;041:0;051:0;061:0");
        Check.rule(x, "t");
        Check.due("six", x, x.pairs(63), 18, 1, 0, 3, 2, 5, 4);
        Check.due("five: the slowest is left over", x, x.pairs(31), 12, -1, 2, 1, 4, 3, -1);
        Check.due("four", x, x.pairs(0b101101), 10, 2, -1, 0, 5, -1, 3);
        Check.rule(x, "1");
        Check.due("all as good: the least row", x, x.pairs(63), 6, 1, 0, 3, 2, 5, 4);
        Check.due("five as good: the first is left over", x, x.pairs(31), 4, -1, 2, 1, 4, 3, -1);
        x.brake(0, 1);
        Check.due("a brakes", x, x.pairs(63), 5, 1, 0, 3, 2, 5, 4);
        // unlike with unlike
        Check.rule(x, "(p-t)*9");
        Check.due("the faster lifts by what it is faster", x, x.pairs(60), 36, -1, -1, 4, 5, 2, 3);
    }

    private static void enough() {
        RentByTheWheel x = Check.with(Check.THREE);
        Check.due("5", x, x.enough(5), 2, 0, 1, 9);
        Check.due("3", x, x.enough(3), 3, 0, 1, 9);
        Check.due("9", x, x.enough(9), 1, 0, 1, 9);
        Check.due("10", x, x.enough(10), 0, 9);
        Check.due("-1", x, x.enough(-1), -1, 9);
        Check.due("199", x, x.enough(199), -1, 9);
        x.brake(0, 1);
        Check.due("a brakes", x, x.enough(6), 1, 0, 1, 6);
        x.sheet(2, 3, 1, 1);
        // PACES 1, 2, 3: a with b 0 + 2, a with c 0 + 0, b with c 4 + 1
        Check.due("a later pair is the first", x, x.enough(4), 1, 1, 2, 5);
        Check.rule(x, "99");
        x.brake(0, 0);
        Check.due("198", x, x.enough(198), 3, 0, 1, 198);
        RentByTheWheel y = Check.with("011:0");
        Check.due("there are no pairs", y, y.enough(0), 0, -1);
    }

    private static void step() {
        RentByTheWheel x = Check.with(Check.THREE);
        Check.due("a", x, x.step(0), 1, 9, 5);
        Check.due("b", x, x.step(1), 0, 9, 5);
        Check.due("c", x, x.step(2), 1, 5, 7);
        Check.due("none such", x, x.step(3), -1, 5, 7);
        Check.due("below 0", x, x.step(-1), -1, 5, 7);
        Check.rule(x, "n");
        Check.due("more together; of equal ones the first", x, x.step(0), 1, 4, -2);
        Check.due("of equal ones the first, of c", x, x.step(2), 0, 4, -2);
        RentByTheWheel y = Check.with("011:0");
        Check.due("there is none", y, y.step(0), -2);
        Check.due("none such of one", y, y.step(1), -1);
    }

    private static void rests() {
        RentByTheWheel x = Check.with(Check.THREE);
        Check.due("b treads", x, x.rests(0, 1, 2), 4, 10, 5);
        Check.due("b treads, as the first", x, x.rests(1, 0, 2), 2, 5, 10);
        Check.due("neither", x, x.rests(0, 2, 1), 1, 0, 0);
        int[][] wrong = {{0, 0, 1}, {0, 3, 1}, {3, 0, 1}, {-1, 0, 1}, {0, -1, 1}, {-1, -1, 1}, {0, 1, 0}, {0, 1, 10}};
        for (int[] w : wrong) {
            Check.due("rests", x, x.rests(w[0], w[1], w[2]), -1, 0, 0);
        }
        // 9 times: b alone 45 and 40; both: 4 * 9 - 3 = 33 each, so a does not come
        Check.due("9 times", x, x.rests(0, 1, 9), 4, 45, 40);
        x.brake(1, 1);
        // a alone: 1 * 9 - 3 = 6 and 9
        Check.due("b brakes", x, x.rests(0, 1, 9), 2, 6, 9);
    }

    private static void restsTogether() {
        // one alone lifts nothing, two 10 each: neither, or both
        RentByTheWheel x = Check.with("021:0;031:0");
        Check.rule(x, "(n-1)*10");
        Check.due("neither or both", x, x.rests(0, 1, 1), 9, 0, 0);
        // one lifts 5, two 10 in all: half of 5 is cut to 2, TURNS are 2 of the first, 3 of the second
        Check.rule(x, "5");
        // first alone: 2 - 2, 2; second alone: 2, 2 - 3; both: 5 - 2, 5 - 2; neither: 0, 0
        Check.due("neither, or both", x, x.rests(0, 1, 1), 9, 0, 0);
        // with 9 times: first alone 16 and 18, both 43: both
        Check.due("9 times: both", x, x.rests(0, 1, 9), 8, 43, 43);
        // two together lift nothing: one of them treads
        Check.rule(x, "(2-n)*8");
        Check.due("one of them", x, x.rests(0, 1, 1), 6, 2, 4);
        RentByTheWheel y = Check.with("011:0;091:0");
        Check.rule(y, "(n=1)*(p=9)*20+(n=2)*(p=1)*24");
        // neither 0 0; first alone -1 0; second alone 10 1; both 12 - 1, 12 - 1
        Check.due("both are better off", y, y.rests(0, 1, 1), 8, 11, 11);
        Check.rule(y, "(n=1)*(20+(p=1)*10)+(n=2)*(p=1)*22");
        // neither 0 0; first alone 14 15; second alone 10 1; both 10 10
        Check.due("the first alone, or the second alone", y, y.rests(0, 1, 1), 6, 14, 15);
        // neither 0 0; first alone 1 2; both 3 3; second alone 5 -4: there is always one who would do the other thing
        Check.rule(y, "(p=1)*n*4+(p=9)*(n=1)*10");
        Check.due("never at rest", y, y.rests(0, 1, 1), 0);
        dueEqual();
    }

    /** What is as good by either thing is no reason to do the other. */
    private static void dueEqual() {
        RentByTheWheel z = Check.with("011:0;041:0");
        Check.rule(z, "(n=1)*(p=4)*10+(n=2)*6");
        // second alone: 5, 1; both: 5, 5 : the first gets 5 by either
        Check.due("as good by either: both ways", z, z.rests(0, 1, 1), 4 | 8, 5, 1);
        // first alone: 9 / 2 - 1 = 3, 4; both: -1, -1; second alone: 0, -4; neither: 0, 0
        Check.rule(z, "(n=1)*(p=1)*9");
        Check.due("the first alone", z, z.rests(0, 1, 1), 2, 3, 4);
        Check.due("twice: half is cut ahead", z, z.rests(0, 1, 2), 2, 7, 8);
    }
}
