/** Boundary cases of promises 16 to 28: a test for each sentence that names one. */
public final class EdgesTreadingTest {
    private static final int[] WRONG_BITS = {-1, -8, 8, 9, 15, 16, 64, 1 << 31};
    private static final int[] WRONG_LODGERS = {-1, -2, 3, 6, 31, 32, 64};

    public static void main(String[] args) {
        fewestJustSo();
        fewestTies();
        anyOfSixTreads();
        fewestOverTheEnd();
        fewestQuarters();
        fewestRefused();
        driestJustSo();
        driestTies();
        driestRefused();
        paysAtOnce();
        paysJustSo();
        paysOverTheEnd();
        paysIn40();
        paysRefused();
        strongestOfEqual();
        strongestRefused();
        roomyLeast();
        roomyMost();
        roomyRefused();
        evenOfNobody();
        evenOfEqual();
        evenRefused();
        thirstTheFirst();
        thirstRefused();
        bathJustSo();
        bathIn60();
        bathRefused();
        sharesBegun();
        fairdueEnds();
        aheadEnds();
        aheadRefused();
        changedMoreAndFewer();
        changedRefused();
        lastsEnds();
        allAlone();
        questions();
        Check.end();
    }

    private static RentByTheWheel one(String wants, String rule) {
        RentByTheWheel x = Check.with("011:" + wants);
        Check.rule(x, rule);
        return x;
    }

    // ---- promise 16

    /** Nobody is DRY; -2: somebody would be all the same. */
    private static void fewestJustSo() {
        RentByTheWheel x = one("3", "2");
        Check.due("2 of 3", x.fewest(1, 1), -2);
        Check.rule(x, "3");
        Check.due("3 of 3", x, x.fewest(1, 1), 1, 0);
        Check.due("nobody may tread", x.fewest(0, 1), -2);
        x.set(2, 2);
        Check.due("2 are there", x.fewest(0, 1), -2);
        x.set(2, 3);
        Check.due("3 are there", x, x.fewest(0, 1), 0, -1);
        Check.due("3 are there, for two", x, x.fewest(1, 2), 1, -1, 0);
        x.brake(0, 1);
        Check.due("it brakes", x.fewest(1, 2), -2);
        x.brake(0, 0);
        x.set(0, 2);
        Check.due("there is no ROOM for it", x.fewest(1, 1), -2);
        RentByTheWheel y = new RentByTheWheel();
        Check.due("there is nobody", y, y.fewest(0, 1), 0, -1);
    }

    /** Of as few the row by which LEVEL at the end is the most, then the least row. */
    private static void fewestTies() {
        RentByTheWheel x = Check.with("015:0;019:0;011:03");
        Check.rule(x, "w");
        Check.due("the most LEVEL, though the first would do", x, x.fewest(3, 2), 1, -1, 1);
        Check.due("the first alone", x, x.fewest(1, 2), 1, -1, 0);
        Check.rule(x, "9-w*(q=1)");
        Check.due("the most LEVEL, though it is no late QUARTER", x, x.fewest(3, 2), 1, 0, -1);
        Check.rule(x, "5");
        Check.due("as much LEVEL: the least row", x, x.fewest(3, 2), 1, -1, 0);
        Check.due("of b alone", x, x.fewest(2, 2), 1, -1, 1);
        // one who lifts 9 twice would have more LEVEL, but one QUARTER is fewer
        Check.rule(x, "w-4");
        Check.due("the fewest first", x, x.fewest(3, 2), 1, -1, 1);
        // ROOM makes both alike
        Check.rule(x, "w");
        x.set(0, 5);
        Check.due("what runs over is no LEVEL", x, x.fewest(3, 2), 1, -1, 0);
        RentByTheWheel y = one("1", "9");
        Check.due("none is better than one, whatever LEVEL is", y, withLevel(y, 2).fewest(1, 2), 0, -1, -1);
    }

    private static RentByTheWheel withLevel(RentByTheWheel x, int level) {
        x.set(2, level);
        return x;
    }

    /** Those told as bits, the first and the last of six too, and nobody else. */
    private static void anyOfSixTreads() {
        for (int who = 0; who < 6; who++) {
            StringBuilder house = new StringBuilder();
            for (int i = 0; i < 6; i++) {
                house.append(i == 0 ? "" : ";").append(i == who ? "019:6" : "011:0");
            }
            RentByTheWheel x = Check.with(house.toString());
            Check.rule(x, "w-3");
            int others = 63 ^ 1 << who;
            Check.due("fewest of all", x, x.fewest(63, 1), 1, who);
            Check.due("fewest of it alone", x, x.fewest(1 << who, 1), 1, who);
            Check.due("fewest of the others", x.fewest(others, 1), -2);
            Check.due("driest of all", x, x.driest(63, 2), 0, who, who);
            Check.due("driest of it alone", x, x.driest(1 << who, 2), 0, who, who);
            Check.due("driest of the others", x, x.driest(others, 2), 2, -1, -1);
        }
    }

    /** The next n QUARTERS go on behind the end of a DAY. */
    private static void fewestOverTheEnd() {
        RentByTheWheel x = one("400000000000", "4");
        Check.day(x, Edge.times(".", 11));
        Check.due("QUARTER 11 alone", x, x.fewest(1, 1), 0, -1);
        Check.due("QUARTERS 11 and 0", x, x.fewest(1, 2), 1, -1, 0);
        Check.due("QUARTERS 11 to 10", x, x.fewest(1, 12), 1, -1, 0, -1, -1, -1, -1, -1, -1, -1, -1, -1, -1);
        Check.due("QUARTERS 11 and 0, nobody treads", x, x.driest(0, 2), 1, -1, -1);
    }

    /** The next n QUARTERS (1 .. 12). */
    private static void fewestQuarters() {
        for (int n = 1; n <= 12; n++) {
            RentByTheWheel x = one("1", "1");
            long[] row = new long[n];
            Check.due("fewest(1, " + n + ")", x, x.fewest(1, n), n, row);
            Check.due("driest(1, " + n + ")", x, x.driest(1, n), 0, row);
            x.set(0, 999);
            x.set(2, 999);
            java.util.Arrays.fill(row, -1);
            Check.due("full: fewest(1, " + n + ")", x, x.fewest(1, n), 0, row);
            Check.due("full: driest(1, " + n + ")", x, x.driest(1, n), 0, row);
        }
    }

    /** NONE: others. */
    private static void fewestRefused() {
        for (int n : new int[] {0, -1, 13, 14, 60}) {
            Edge.refused("fewest(7, " + n + ")", x -> x.fewest(7, n), -1);
        }
        for (int those : WRONG_BITS) {
            Edge.refused("fewest(" + those + ", 1)", x -> x.fewest(those, 1), -1);
        }
        for (int far : Edge.FAR) {
            Edge.refused("fewest(" + far + ", 1)", x -> x.fewest(far, 1), -1);
            Edge.refused("fewest(1, " + far + ")", x -> x.fewest(1, far), -1);
        }
        RentByTheWheel y = Check.with(Edge.times("011:0;", 5) + "011:0");
        Check.due("all six", y.fewest(63, 1), 0);
        Check.due("a seventh", y.fewest(64, 1), -1);
        Check.due("all six, DRY or not", y.driest(63, 1), 0);
        Check.due("a seventh, DRY or not", y.driest(64, 1), -1);
    }

    // ---- promise 17

    /** The fewest times that somebody is DRY. */
    private static void driestJustSo() {
        RentByTheWheel x = one("3", "2");
        Check.due("2 of 3", x, x.driest(1, 1), 1, -1);
        Check.due("4 of 6", x, x.driest(1, 2), 1, 0, 0);
        Check.rule(x, "3");
        Check.due("3 of 3", x, x.driest(1, 1), 0, 0);
        Check.due("nobody may tread", x, x.driest(0, 2), 2, -1, -1);
        RentByTheWheel y = Check.with(Edge.times("011:9;", 5) + "011:9");
        Check.rule(y, "8");
        Check.due("all of six, always, but for what gathers", y, y.driest(63, 1), 6, -1);
        y.brake(0, 1);
        Check.due("who brakes does not help", y, y.driest(1, 12), 72, -1, -1, -1, -1, -1, -1, -1, -1, -1, -1, -1, -1);
        RentByTheWheel z = new RentByTheWheel();
        Check.due("there is nobody", z, z.driest(0, 2), 0, -1, -1);
    }

    /** Of as good ones the fewest QUARTERS trodden, then the least row. */
    private static void driestTies() {
        RentByTheWheel x = Check.with("013:0;019:0;011:03");
        Check.rule(x, "w");
        Check.due("the least row, not the most LEVEL", x, x.driest(3, 2), 0, -1, 0);
        Check.due("of b", x, x.driest(2, 2), 0, -1, 1);
        x.set(2, 3);
        Check.due("nobody need tread", x, x.driest(3, 2), 0, -1, -1);
        x.set(2, 0);
        Check.rule(x, "w-6");
        Check.due("b alone can", x, x.driest(3, 2), 0, -1, 1);
        Check.rule(x, "2");
        Check.due("two QUARTERS are needed", x, x.driest(3, 2), 0, 0, 0);
        Check.rule(x, "1");
        Check.due("it would not help: nobody treads", x, x.driest(3, 2), 1, -1, -1);
    }

    /** NONE: others. */
    private static void driestRefused() {
        for (int n : new int[] {0, -1, 13, 14, 60}) {
            Edge.refused("driest(7, " + n + ")", x -> x.driest(7, n), -1);
        }
        for (int those : WRONG_BITS) {
            Edge.refused("driest(" + those + ", 1)", x -> x.driest(those, 1), -1);
        }
        for (int far : Edge.FAR) {
            Edge.refused("driest(" + far + ", 1)", x -> x.driest(far, 1), -1);
            Edge.refused("driest(1, " + far + ")", x -> x.driest(1, far), -1);
        }
    }

    // ---- promise 18

    /** How many (0: they are). */
    private static void paysAtOnce() {
        RentByTheWheel x = Check.with("011:0;191:0");
        Check.due("DEBTS of 0", x, x.pays(3), 0, 0, 0);
        Check.due("nobody", x, x.pays(0), 0);
        x.quarter(1, -1);
        Check.due("paid ahead", x, x.pays(2), 0, 0);
        Check.day(x, Edge.times(".", 11));
        Check.due("a owes, b does not", x, x.pays(2), 0, 0);
        Check.due("a", x, x.pays(1), 2, 2);
        Check.due("both", x, x.pays(3), 2, 2, 0);
    }

    /** All 0 or less: the fewest QUARTERS by which it has paid. */
    private static void paysJustSo() {
        RentByTheWheel x = Check.with("051:0");
        int[] dues = {4, 5, 6};
        int[] treads = {1, 1, 2};
        for (int i = 0; i < dues.length; i++) {
            RentByTheWheel y = Check.with("051:0");
            y.set(1, dues[i]);
            Check.day(y, Edge.times(".", 12));
            Check.due("DEBT " + dues[i] + " by PACE 5", y, y.pays(1), treads[i], treads[i]);
        }
        x.set(1, 5);
        Check.day(x, Edge.times(".", 11) + ".a");
        Check.due("just 0", x, x.pays(1), 0, 0);
    }

    /** What they owe at the end of a DAY comes besides. */
    private static void paysOverTheEnd() {
        RentByTheWheel x = Check.with("011:0");
        x.set(1, 3);
        Check.day(x, Edge.times(".", 12) + Edge.times(".", 8));
        // NOW is 20, 3 are owed, the end comes with the fourth QUARTER
        Check.due("ahead of the end", x, x.pays(1), 3, 3);
        x.quarter(-1, -1);
        // NOW is 21: the third QUARTER is the last one of the DAY, and 3 are owed by it
        Check.due("behind the end", x, x.pays(1), 6, 6);
        x.quarter(-1, -1);
        Check.due("behind the end, from 22", x, x.pays(1), 6, 6);
        x.quarter(0, -1);
        x.quarter(0, -1);
        Check.due("NOW", x.count(1), 24);
        Check.due("4 are owed", x, x.pays(1), 4, 4);
    }

    /** 1 .. 40; -2: not in 40. */
    private static void paysIn40() {
        int[] treads = {40, 41};
        for (int owed : treads) {
            RentByTheWheel x = Check.with("011:0;011:0");
            x.set(1, 9);
            // 5 ends of DAYS: 45
            Check.day(x, Edge.times(".", 48));
            Check.day(x, Edge.times(".", 12));
            Check.day(x, Edge.times("a", 45 - owed));
            x.set(1, 0);
            Check.due("a owes", x.debt(0), owed);
            if (owed == 40) {
                Check.due("40", x, x.pays(1), 40, 40);
            } else {
                Check.due("41", x.pays(1), -2);
            }
            Check.due("both: 85 or 86", x.pays(3), -2);
        }
        RentByTheWheel y = Check.with("011:0;011:0");
        y.set(1, 1);
        Check.day(y, Edge.times(".", 12));
        y.set(1, 0);
        Check.due("1 by each", y, y.pays(3), 2, 1, 1);
        Check.due("1 by one", y, y.pays(2), 1, 1);
    }

    /** NONE: bits of none such. */
    private static void paysRefused() {
        for (int those : WRONG_BITS) {
            Edge.refused("pays(" + those + ")", x -> x.pays(those), -1);
        }
        for (int far : Edge.FAR) {
            Edge.refused("pays(" + far + ")", x -> x.pays(far), -1);
        }
        Check.due("of nobody", new RentByTheWheel().pays(0), 0);
        Check.due("none such of nobody", new RentByTheWheel().pays(1), -1);
    }

    // ---- promise 19

    /** Of equal ones the first. */
    private static void strongestOfEqual() {
        RentByTheWheel x = Check.with(Edge.times("011:0;", 5) + "011:0");
        Check.rule(x, "5");
        for (int first = 0; first < 6; first++) {
            Check.due("from " + first, x, x.strongest(63 & -(1 << first)), first, 5);
            Check.due("alone", x, x.strongest(1 << first), first, 5);
        }
        Check.rule(x, "0");
        Check.due("all lift nothing", x, x.strongest(62), 1, 0);
        Check.rule(x, "99");
        Check.due("all lift the most", x, x.strongest(60), 2, 99);
        x.brake(2, 1);
        Check.due("the first brakes", x, x.strongest(60), 3, 99);
        Check.due("who brakes, alone", x, x.strongest(4), 2, 0);
        RentByTheWheel y = Check.with("011:0;021:0;021:0;011:0");
        Check.rule(y, "p");
        Check.due("the first of the strongest", y, y.strongest(15), 1, 2);
    }

    /** NONE: bits of none such, nobody. */
    private static void strongestRefused() {
        Edge.refused("strongest(0)", x -> x.strongest(0), -1);
        for (int those : WRONG_BITS) {
            Edge.refused("strongest(" + those + ")", x -> x.strongest(those), -1);
        }
        for (int far : Edge.FAR) {
            Edge.refused("strongest(" + far + ")", x -> x.strongest(far), -1);
        }
        Check.due("of nobody", new RentByTheWheel().strongest(0), -1);
    }

    // ---- promise 20

    /** The least ROOM (1 .. 999; LEVEL no more than it, at first, too). */
    private static void roomyLeast() {
        RentByTheWheel x = one("0", "9");
        Check.due("nobody is ever DRY", x, x.roomy(0, 1), 1, 0);
        RentByTheWheel y = one("1", "9");
        Check.due("1 is enough", y, y.roomy(0, 1), 1, 0);
        RentByTheWheel z = one("2", "9");
        Check.due("2 are needed", z, z.roomy(0, 60), 2, 0);
        Check.rule(z, "0");
        Check.due("as DRY with any", z, z.roomy(0, 60), 1, 60);
        z.set(2, 50);
        Check.due("LEVEL must be held", z, z.roomy(0, 25), 50, 0);
        Check.due("LEVEL must be held, and more are DRY", z, z.roomy(0, 26), 50, 1);
        Check.due("not all of LEVEL", z, z.roomy(0, 24), 48, 0);
        Check.due("ROOM stays", z.count(5), 50);
        Check.due("LEVEL stays", z.count(4), 50);
    }

    /** No oftener than with 999. */
    private static void roomyMost() {
        RentByTheWheel x = Check.with("011:9;011:9;011:9");
        Check.rule(x, "0");
        x.set(0, 999);
        x.set(2, 999);
        // 37 times 27
        Check.due("all of 999", x, x.roomy(0, 37), 999, 0);
        Check.due("all of 999, and three are DRY", x, x.roomy(0, 38), 999, 3);
        x.set(2, 998);
        Check.due("998: the last one is DRY all the same, 9 less will do", x, x.roomy(0, 37), 990, 1);
        // with 1000 nobody would be DRY, with 999 the last one is once, as with 991
        RentByTheWheel w = Check.with("011:9;011:9;011:7");
        Check.rule(w, "l>998");
        w.set(0, 999);
        w.set(2, 999);
        Check.due("as with 999, not as with 1000", w, w.roomy(0, 40), 991, 1);
        // more than ROOM as it is: 30 are lifted, 9 wanted by each
        RentByTheWheel y = Check.with("011:9;011:9;011:9;011:0");
        y.set(0, 1);
        Check.rule(y, "30");
        Check.due("27, though ROOM is 1", y, y.roomy(3, 60), 27, 0);
    }

    /** NONE: others. */
    private static void roomyRefused() {
        for (int n : new int[] {0, -1, 61, 62}) {
            Edge.refused("roomy(0, " + n + ")", x -> x.roomy(0, n), -1);
        }
        for (int lodger : WRONG_LODGERS) {
            Edge.refused("roomy(" + lodger + ", 1)", x -> x.roomy(lodger, 1), -1);
        }
        for (int far : Edge.FAR) {
            Edge.refused("roomy(" + far + ", 1)", x -> x.roomy(far, 1), -1);
            Edge.refused("roomy(0, " + far + ")", x -> x.roomy(0, far), -1);
        }
        RentByTheWheel y = one("1", "0");
        Check.due("n 1", y, y.roomy(0, 1), 1, 1);
        Check.due("n 60", y, y.roomy(0, 60), 1, 60);
    }

    // ---- promise 21

    /** -2: there are no LODGERS. */
    private static void evenOfNobody() {
        Check.due("even(1)", new RentByTheWheel().even(1), -2);
        Check.due("even(60)", new RentByTheWheel().even(60), -2);
        Check.due("even(0)", new RentByTheWheel().even(0), -1);
        Check.due("even(61)", new RentByTheWheel().even(61), -1);
    }

    /** Of equal ones the first; nobody, if all are 0 or less. */
    private static void evenOfEqual() {
        RentByTheWheel x = Check.with("011:0;021:0;011:0");
        Check.rule(x, "p*10+1");
        Check.due("all are 0: nobody treads", x, x.even(1), 0, 0, 0, 1);
        x.set(1, 1);
        Check.day(x, Edge.times(".", 12));
        // each owes 1: a, then b, then c, then nobody
        Check.due("the first", x, x.even(1), 0, 11, 1, 0);
        Check.due("then the second", x, x.even(2), 0, 32, 1, 0);
        Check.due("then the third", x, x.even(3), 0, 43, 0, 0);
        Check.due("then nobody", x, x.even(4), 0, 43, 0, 1);
        Check.due("till the end of the DAY", x, x.even(11), 0, 43, 0, 8);
        Check.due("all but b owe 1 then", x, x.even(12), 0, 43, 1, 9);
        Check.due("a, and then c", x, x.even(14), 0, 50, 0, 9);
        x.quarter(0, -1);
        x.quarter(1, -1);
        x.quarter(2, -1);
        x.quarter(1, -1);
        x.quarter(0, -1);
        x.quarter(2, -1);
        Check.due("all have paid ahead", x, x.even(1), 0, 50, -1, 1);
    }

    /** NONE: another n. */
    private static void evenRefused() {
        for (int n : new int[] {0, -1, 61, 62}) {
            Edge.refused("even(" + n + ")", x -> x.even(n), -1);
        }
        for (int far : Edge.FAR) {
            Edge.refused("even(" + far + ")", x -> x.even(far), -1);
        }
        RentByTheWheel y = one("1", "0");
        Check.due("n 1", y, y.even(1), 1, 0, 0, 1);
        // DEBT 2 at the ends of 5 DAYS, of which two QUARTERS each are trodden but behind the last
        Check.due("n 60", y, y.even(60), 60, 0, 2, 52);
    }

    // ---- promise 22

    /** In which (0: QUARTER NOW) they are the most (the first), how much there. */
    private static void thirstTheFirst() {
        RentByTheWheel x = Check.with("011:123456789013;011:0");
        Check.due("QUARTER NOW alone", x, x.thirst(1), 1, 0, 1);
        Check.due("the last is the most", x, x.thirst(9), 45, 8, 9);
        Check.due("one of them is", x, x.thirst(12), 49, 8, 9);
        Check.due("the first of two such", x, x.thirst(24), 98, 8, 9);
        Check.due("60", x, x.thirst(60), 245, 8, 9);
        Check.day(x, Edge.times(".", 11));
        Check.due("from the last QUARTER of a DAY", x, x.thirst(1), 3, 0, 3);
        Check.due("over its end", x, x.thirst(4), 9, 0, 3);
        Check.due("over its end, and more", x, x.thirst(5), 13, 4, 4);
        RentByTheWheel y = new RentByTheWheel();
        Check.due("of nobody", y, y.thirst(60), 0, 0, 0);
        RentByTheWheel z = Check.with(Edge.times("011:9;", 5) + "011:9");
        Check.due("the most of all", z, z.thirst(60), 3240, 0, 54);
    }

    /** NONE: another n. */
    private static void thirstRefused() {
        for (int n : new int[] {0, -1, 61, 62}) {
            Edge.refused("thirst(" + n + ")", x -> x.thirst(n), -1);
        }
        for (int far : Edge.FAR) {
            Edge.refused("thirst(" + far + ")", x -> x.thirst(far), -1);
        }
    }

    // ---- promise 23

    /** LEVEL at v (1 .. 999) or more behind one (WANTS taken). */
    private static void bathJustSo() {
        RentByTheWheel x = one("2", "5");
        Check.due("1", x, x.bath(0, 1), 1, 0);
        Check.due("3: just so", x, x.bath(0, 3), 1, 0);
        Check.due("4", x, x.bath(0, 4), 2, 0);
        x.set(2, 30);
        Check.due("it is there now: behind one QUARTER all the same", x, x.bath(0, 30), 1, 0);
        x.brake(0, 1);
        Check.due("28 behind the first", x, x.bath(0, 28), 1, 0);
        Check.due("29 never again", x.bath(0, 29), -2);
        RentByTheWheel y = one("2", "1");
        // 1 (DRY), 2 less 2, 1 (DRY), ..
        Check.due("who is DRY leaves it there", y, y.bath(0, 1), 1, 1);
        Check.due("2 are never there", y.bath(0, 2), -2);
        RentByTheWheel z = one("0", "99");
        z.set(0, 999);
        Check.due("999", z, z.bath(0, 999), 11, 0);
        z.set(0, 998);
        Check.due("more than ROOM", z.bath(0, 999), -2);
        Check.due("ROOM", z, z.bath(0, 998), 11, 0);
    }

    /** -2: not in 60. */
    private static void bathIn60() {
        RentByTheWheel x = Check.with("011:0;011:9");
        x.set(0, 9);
        Check.rule(x, "0");
        Check.due("never", x.bath(0, 1), -2);
        RentByTheWheel y = one("0", "1");
        y.set(0, 999);
        Check.due("in 59", y, y.bath(0, 59), 59, 0);
        Check.due("in 60", y, y.bath(0, 60), 60, 0);
        Check.due("in 61", y.bath(0, 61), -2);
        y.set(2, 939);
        Check.due("999 in 60", y, y.bath(0, 999), 60, 0);
        y.set(2, 938);
        Check.due("999 in 61", y.bath(0, 999), -2);
    }

    /** NONE: others. */
    private static void bathRefused() {
        for (int v : new int[] {0, -1, 1000, 1001}) {
            Edge.refused("bath(0, " + v + ")", x -> x.bath(0, v), -1);
        }
        for (int lodger : WRONG_LODGERS) {
            Edge.refused("bath(" + lodger + ", 1)", x -> x.bath(lodger, 1), -1);
        }
        for (int far : Edge.FAR) {
            Edge.refused("bath(" + far + ", 1)", x -> x.bath(far, 1), -1);
            Edge.refused("bath(0, " + far + ")", x -> x.bath(0, far), -1);
        }
    }

    // ---- promise 24

    /** By PACE, begun ones too; then LODGERS (bits) who could not with all 12. */
    private static void sharesBegun() {
        RentByTheWheel x = Check.with("051:0");
        int[] dues = {0, 4, 5, 6, 9};
        int[] treads = {0, 1, 1, 2, 2};
        for (int i = 0; i < dues.length; i++) {
            x.set(1, dues[i]);
            Check.due("DUE " + dues[i] + " by PACE 5", x, x.shares(), treads[i], treads[i], 0);
        }
        RentByTheWheel y = Check.with("311:0;511:0");
        y.set(1, 2);
        Check.due("8, and just 12", y, y.shares(), 20, 8, 12, 0);
        y.set(1, 3);
        Check.due("just 12, and 18", y, y.shares(), 30, 12, 18, 2);
        y.set(1, 4);
        Check.due("16, and 24", y, y.shares(), 40, 16, 24, 3);
        RentByTheWheel w = Check.with("421:0");
        w.set(1, 5);
        Check.due("just 13", w, w.shares(), 13, 13, 1);
        RentByTheWheel z = Check.with("011:0;" + Edge.times("511:0;", 4) + "511:0");
        z.set(1, 9);
        Check.due("all but the first could not", z, z.shares(), 279, 9, 54, 54, 54, 54, 54, 62);
        RentByTheWheel n = new RentByTheWheel();
        Check.due("nobody", n, n.shares(), 0, 0);
    }

    // ---- promise 25

    /** The greatest DUE (0 .. 9) with which shares() would tell 12 or less. */
    private static void fairdueEnds() {
        RentByTheWheel x = new RentByTheWheel();
        Check.due("nobody", x, x.fairdue(), 9, 0);
        String[] houses = {"011:0", "111:0", "011:0;211:0", "511:0;511:0", "511:0;511:0;011:0", "521:0;521:0;521:0;521:0", "021:0", "391:0"};
        int[] dues = {9, 6, 3, 1, 0, 1, 9, 9};
        int[] tells = {9, 12, 12, 12, 0, 12, 5, 4};
        for (int i = 0; i < houses.length; i++) {
            RentByTheWheel y = Check.with(houses[i]);
            Check.due(houses[i], y, y.fairdue(), dues[i], tells[i]);
            y.set(1, 0);
            Check.due("whatever DUE is: " + houses[i], y, y.fairdue(), dues[i], tells[i]);
        }
    }

    // ---- promise 26

    /** Now and all that while; 99 at most; 0: it has more than 0 at the next end, or now. */
    private static void aheadEnds() {
        RentByTheWheel x = Check.with("011:0");
        Check.due("0 now, 2 at the next end", x.ahead(0), 0);
        x.set(1, 0);
        Check.due("0 now, and nothing comes", x.ahead(0), 99);
        x.set(1, 2);
        x.quarter(0, -1);
        Check.due("1 ahead", x.ahead(0), 0);
        x.quarter(0, -1);
        Check.due("2 ahead: just 0 at the next end", x.ahead(0), 1);
        x.quarter(0, -1);
        Check.due("3 ahead", x.ahead(0), 1);
        x.quarter(0, -1);
        Check.due("4 ahead", x.ahead(0), 2);
        x.set(1, 0);
        Check.due("nothing comes", x.ahead(0), 99);
        RentByTheWheel y = Check.with("011:0;011:0");
        Check.day(y, Edge.times(".", 12));
        y.set(1, 0);
        Check.due("it owes now, and nothing comes", y.ahead(0), 0);
        int[] paid = {97, 98, 99, 100};
        int[] days = {97, 98, 99, 99};
        for (int i = 0; i < paid.length; i++) {
            RentByTheWheel z = Check.with("011:0");
            z.set(1, 0);
            for (int k = 0; k < paid[i]; k += 48) {
                Check.day(z, Edge.times("a", Math.min(48, paid[i] - k)));
            }
            Check.due("DEBT", z.debt(0), -paid[i]);
            z.set(1, 1);
            Check.due(paid[i] + " ahead", z.ahead(0), days[i]);
        }
    }

    /** NONE: none such. */
    private static void aheadRefused() {
        for (int lodger : WRONG_LODGERS) {
            Edge.refused("ahead(" + lodger + ")", x -> x.ahead(lodger), -1);
        }
        for (int far : Edge.FAR) {
            Edge.refused("ahead(" + far + ")", x -> x.ahead(far), -1);
        }
    }

    // ---- promise 27

    /** By how many times more (below 0: fewer). */
    private static void changedMoreAndFewer() {
        RentByTheWheel x = Check.with("011:1;111:2");
        x.set(2, 2);
        Check.due("as many", x, x.changed(0, 1, 1), 0, 1, 1);
        x.set(2, 1);
        Check.due("as many, both ways round", x, x.changed(1, 0, 1), 0, 1, 1);
        RentByTheWheel y = Check.with("011:1;111:2;211:1");
        y.set(2, 2);
        Check.due("more", y, y.changed(0, 1, 1), 1, 1, 2);
        Check.due("more, told the other way round", y, y.changed(1, 0, 1), 1, 1, 2);
        RentByTheWheel z = Check.with("011:2;111:1;211:1");
        z.set(2, 2);
        Check.due("fewer", z, z.changed(0, 2, 1), -1, 2, 1);
        Check.due("60 QUARTERS", z, z.changed(0, 2, 60), -1, 179, 178);
        // in QUARTER 0 as many are DRY by either way, in QUARTER 1 two by the one and one by the other
        RentByTheWheel u = Check.with("011:04;111:02;211:02");
        u.set(2, 4);
        Check.due("in QUARTER 0", u, u.changed(0, 2, 1), 0, 0, 0);
        Check.due("in QUARTER 1 besides", u, u.changed(0, 2, 2), -1, 2, 1);
        Check.day(u, Edge.times(".", 11));
        u.set(2, 4);
        Check.due("in QUARTER 11", u, u.changed(0, 2, 1), -1, 2, 1);
        Check.due("and over the end of the DAY", u, u.changed(0, 2, 2), -1, 2, 1);
        RentByTheWheel w = Check.with("011:2;011:1;011:1");
        w.set(2, 2);
        Check.due("of like STOREYS: nothing changes", w, w.changed(0, 2, 1), 0, 2, 2);
        RentByTheWheel six = Check.with("011:1;" + Edge.times("111:1;", 4) + "511:5");
        six.set(2, 5);
        Check.due("the last of six comes first", six, six.changed(0, 5, 1), 4, 1, 5);
        // who comes to STOREY 1 takes there by its number: b ahead of c, who is DRY then
        RentByTheWheel v = Check.with("111:0;011:1;111:2;111:1");
        v.set(2, 2);
        Check.due("in a STOREY by numbers", v, v.changed(0, 1, 1), 0, 1, 1);
    }

    /** -1000: others. */
    private static void changedRefused() {
        int[][] wrong = {{0, 0, 1}, {2, 2, 1}, {0, 3, 1}, {3, 0, 1}, {-1, 0, 1}, {0, -1, 1}, {-1, -1, 1}, {0, 1, 0}, {0, 1, -1}, {0, 1, 61}, {0, 32, 1}};
        for (int[] w : wrong) {
            Edge.refused("changed(" + w[0] + ", " + w[1] + ", " + w[2] + ")", x -> x.changed(w[0], w[1], w[2]), -1000);
        }
        for (int far : Edge.FAR) {
            Edge.refused("changed(" + far + ", 0, 1)", x -> x.changed(far, 0, 1), -1000);
            Edge.refused("changed(0, " + far + ", 1)", x -> x.changed(0, far, 1), -1000);
            Edge.refused("changed(0, 1, " + far + ")", x -> x.changed(0, 1, far), -1000);
        }
    }

    // ---- promise 28

    /** After how many QUARTERS (0: now) somebody is DRY first. -2: not in 99. */
    private static void lastsEnds() {
        RentByTheWheel x = Check.with("011:1");
        x.set(0, 999);
        int[] levels = {0, 1, 97, 98, 99, 100};
        int[] after = {0, 1, 97, 98, -2, -2};
        for (int i = 0; i < levels.length; i++) {
            x.set(2, levels[i]);
            Check.due("LEVEL " + levels[i], x.lasts(), after[i]);
            if (after[i] >= 0) {
                Check.dueRow("who", x, 1);
            }
        }
        RentByTheWheel y = Check.with(Edge.times("011:9;", 5) + "011:9");
        Check.due("all are", y, y.lasts(), 0, 63);
        y.set(2, 53 - 9);
        Check.due("the last two are", y, y.lasts(), 0, 48);
        RentByTheWheel z = Check.with("011:0");
        Check.due("who wants nothing", z.lasts(), -2);
        Check.due("nobody", new RentByTheWheel().lasts(), -2);
        RentByTheWheel w = Check.with("011:000000000001");
        Check.due("in the last QUARTER of the DAY", w, w.lasts(), 11, 1);
        w.quarter(-1, -1);
        Check.due("a QUARTER later", w, w.lasts(), 10, 1);
        Check.day(w, Edge.times(".", 11));
        Check.due("behind the end of a DAY", w, w.lasts(), 11, 1);
    }

    /** Who treads in these questions treads alone: n is 1. */
    private static void allAlone() {
        RentByTheWheel x = one("1", "n");
        Check.due("strongest", x, x.strongest(1), 0, 1);
        Check.due("fewest", x, x.fewest(1, 2), 2, 0, 0);
        Check.due("driest", x, x.driest(1, 2), 0, 0, 0);
        Check.due("roomy", x, x.roomy(0, 3), 1, 0);
        Check.due("bath: 1 is lifted and taken", x.bath(0, 1), -2);
        RentByTheWheel y = one("2", "n");
        Check.due("roomy: 1 is lifted, 2 are wanted", y, y.roomy(0, 4), 2, 2);
        Check.day(y, Edge.times(".", 12));
        Check.due("even: 1 is lifted by each of two QUARTERS", y, y.even(2), 1, 0, 0, 0);
    }

    /** Questions change nothing. */
    private static void questions() {
        Edge.question("fewest", x -> x.fewest(7, 12));
        Edge.question("fewest that can't be", x -> x.fewest(0, 12));
        Edge.question("driest", x -> x.driest(7, 12));
        Edge.question("pays", x -> x.pays(7));
        Edge.question("strongest", x -> x.strongest(7));
        Edge.question("roomy", x -> x.roomy(1, 60));
        Edge.question("even", x -> x.even(60));
        Edge.question("thirst", x -> x.thirst(60));
        Edge.question("bath", x -> x.bath(0, 30));
        Edge.question("bath that can't be", x -> x.bath(2, 999));
        Edge.question("shares", x -> x.shares());
        Edge.question("fairdue", x -> x.fairdue());
        Edge.question("ahead", x -> x.ahead(0));
        Edge.question("changed", x -> x.changed(0, 1, 60));
        Edge.question("lasts", x -> x.lasts());
    }
}
