/** Promises 16 to 28. */
public final class TreadingTest {
    public static void main(String[] args) {
        fewest();
        fewestTies();
        driest();
        pays();
        strongest();
        roomy();
        even();
        thirst();
        bath();
        shares();
        fairdue();
        ahead();
        changed();
        lasts();
        Check.end();
    }

    private static void fewest() {
        RentByTheWheel x = Check.with(Check.THREE);
        Check.due("one of all", x, x.fewest(7, 1), 1, 1);
        Check.due("in three", x, x.fewest(7, 3), 1, 1, -1, -1);
        Check.due("a alone", x, x.fewest(1, 1), 1, 0);
        Check.due("a alone in two", x, x.fewest(1, 2), -2, 0);
        Check.due("c alone", x, x.fewest(4, 1), -2, 0);
        Check.due("nobody may", x, x.fewest(0, 1), -2, 0);
        int[][] wrong = {{8, 1}, {-1, 1}, {1, 0}, {1, 13}, {1, -1}};
        for (int[] w : wrong) {
            Check.due("fewest(" + w[0] + ", " + w[1] + ")", x, x.fewest(w[0], w[1]), -1, 0);
        }
        // 48 pails in a DAY: b must lift five times (55), each time as late as may be
        Check.due("a DAY", x, x.fewest(7, 12), 5, 1, -1, -1, 1, -1, 1, -1, -1, 1, -1, -1, 1);
        x.set(2, 20);
        Check.due("enough is there", x, x.fewest(7, 5), 0, -1, -1, -1, -1, -1);
        x.brake(1, 1);
        x.set(2, 0);
        Check.due("b brakes", x, x.fewest(7, 1), 1, 0);
        RentByTheWheel y = new RentByTheWheel();
        Check.due("nobody is there", y, y.fewest(0, 12), 0, -1, -1, -1, -1, -1, -1, -1, -1, -1, -1, -1, -1);
        Check.due("bits of none such", y, y.fewest(1, 1), -1, -1, -1, -1, -1, -1, -1, -1, -1, -1, -1, -1, -1);
    }

    private static void fewestTies() {
        // a lifts 5, b lifts 9 (by its WEIGHT), and both are enough
        RentByTheWheel x = Check.with("015:0;019:0;011:003");
        Check.rule(x, "w");
        Check.due("LEVEL at the end is the most", x, x.fewest(3, 3), 1, -1, -1, 1);
        x.set(0, 5);
        Check.due("as much by both: the least row", x, x.fewest(3, 3), 1, -1, -1, 0);
        x.set(0, 50);
        // who treads early lifts more
        Check.rule(x, "w-q");
        Check.due("the most first, then the least row", x, x.fewest(3, 3), 1, 1, -1, -1);
        // as few, and LEVEL at the end is the same whenever one treads: nobody as long as may be
        Check.rule(x, "5");
        Check.due("the least row", x, x.fewest(7, 3), 1, -1, -1, 0);
    }

    private static void driest() {
        RentByTheWheel x = Check.with(Check.THREE);
        Check.due("nobody may", x, x.driest(0, 2), 4, -1, -1);
        Check.due("a", x, x.driest(1, 2), 1, 0, 0);
        Check.due("all", x, x.driest(7, 2), 0, 1, -1);
        Check.due("c helps b once", x, x.driest(4, 2), 3, 2, -1);
        int[][] wrong = {{8, 1}, {-1, 1}, {1, 0}, {1, 13}};
        for (int[] w : wrong) {
            Check.due("driest(" + w[0] + ", " + w[1] + ")", x, x.driest(w[0], w[1]), -1, 2, -1);
        }
        x.set(2, 20);
        Check.due("enough is there", x, x.driest(7, 5), 0, -1, -1, -1, -1, -1);
        RentByTheWheel y = new RentByTheWheel();
        Check.due("nobody is there", y, y.driest(0, 1), 0, -1);
        // a pail in each QUARTER, and one lifts just that
        RentByTheWheel z = Check.with("011:1");
        Check.rule(z, "1");
        Check.due("12 QUARTERS", z, z.driest(1, 12), 0, 0, 0, 0, 0, 0, 0, 0, 0, 0, 0, 0, 0);
        Check.due("12 QUARTERS, nobody DRY", z, z.fewest(1, 12), 12, 0, 0, 0, 0, 0, 0, 0, 0, 0, 0, 0, 0);
        z.set(0, 999);
        z.set(2, 999);
        Check.due("a full CISTERN", z, z.driest(1, 12), 0, -1, -1, -1, -1, -1, -1, -1, -1, -1, -1, -1, -1);
        Check.due("a full CISTERN, nobody DRY", z, z.fewest(1, 12), 0, -1, -1, -1, -1, -1, -1, -1, -1, -1, -1, -1, -1);
    }

    private static void pays() {
        RentByTheWheel x = Check.with(Check.THREE);
        Check.due("they have paid", x, x.pays(7), 0, 0, 0, 0);
        Check.due("nobody", x, x.pays(0), 0);
        Check.day(x, "............");
        Check.due("all", x, x.pays(7), 5, 1, 2, 2);
        Check.due("a and c", x, x.pays(5), 3, 1, 2);
        Check.due("bits of none such", x, x.pays(8), -1, 1, 2);
        Check.due("bits below 0", x, x.pays(-1), -1, 1, 2);
        Check.day(x, "..........");
        // NOW is 22: the end of the DAY comes behind two QUARTERS, and all owe as much once more
        Check.due("over the end of a DAY", x, x.pays(7), 9, 2, 3, 4);
        Check.due("c ahead of the end", x, x.pays(4), 4, 4);
        Check.due("a ahead of the end", x, x.pays(1), 1, 1);
        x.sheet(3, 0, 0, 0);
        x.set(1, 9);
        Check.due("not in 40", x, x.pays(7), -2, 1);
        // PACE 1 and 2 owed: one QUARTER is not enough, and behind two there are 9 more
        Check.due("a", x, x.pays(1), 11, 11);
        RentByTheWheel y = Check.with("011:0;311:0");
        y.set(1, 9);
        Check.day(y, "............");
        Check.due("b owes 36 and will owe more", y, y.pays(2), -2, 0, 0, 0);
        y.set(1, 0);
        Check.due("b owes 36 and no more", y, y.pays(2), 36, 36);
        y.set(1, 1);
        Check.day(y, "............");
        // b owes 40 (9 times 4, and 4), a 10
        y.set(1, 0);
        Check.due("just 40", y, y.pays(2), 40, 40);
        Check.due("50 are not in 40", y, y.pays(3), -2, 40);
        y.set(1, 1);
        Check.day(y, "bbb............b........");
        // b owes 40 + 8 - 4 = 44, a 12
        y.set(1, 0);
        Check.day(y, "bbb");
        Check.due("41 are not in 40", y, y.pays(2), -2, 0, 0, 0);
        Check.day(y, "b");
        Check.due("40 are", y, y.pays(2), 40, 40);
    }

    private static void strongest() {
        RentByTheWheel x = Check.with(Check.THREE);
        Check.due("of all", x, x.strongest(7), 1, 11);
        Check.due("of a and c", x, x.strongest(5), 0, 3);
        Check.due("c alone", x, x.strongest(4), 2, 1);
        Check.due("nobody", x, x.strongest(0), -1, 1);
        Check.due("none such", x, x.strongest(8), -1, 1);
        Check.due("below 0", x, x.strongest(-8), -1, 1);
        x.brake(1, 1);
        Check.due("b brakes", x, x.strongest(6), 2, 1);
        x.brake(2, 1);
        Check.due("both brake: the first", x, x.strongest(6), 1, 0);
        Check.rule(x, "l+1");
        x.set(2, 30);
        Check.due("of equal ones the first", x, x.strongest(7), 0, 31);
    }

    private static void roomy() {
        RentByTheWheel x = Check.with(Check.THREE);
        Check.due("b", x, x.roomy(1, 2), 5, 0);
        Check.due("b, one QUARTER", x, x.roomy(1, 1), 3, 0);
        Check.due("c lifts 1 in each", x, x.roomy(2, 2), 1, 3);
        int[][] wrong = {{3, 1}, {-1, 1}, {0, 0}, {0, 61}};
        for (int[] w : wrong) {
            Check.due("roomy(" + w[0] + ", " + w[1] + ")", x, x.roomy(w[0], w[1]), -1, 3);
        }
        x.set(2, 50);
        x.brake(0, 1);
        // 50 there, and nothing comes: 3 + 5 + 3 + .. till 48 in 12 QUARTERS
        Check.due("what is there must be held", x, x.roomy(0, 12), 48, 0);
        Check.due("ROOM stays", x.count(5), 50);
        Check.due("60 QUARTERS", x.roomy(1, 60) > 0, true);
        RentByTheWheel y = Check.with("011:0");
        Check.due("nobody is ever DRY", y, y.roomy(0, 60), 1, 0);
    }

    private static void even() {
        RentByTheWheel x = Check.with(Check.THREE);
        Check.due("none owes", x, x.even(2), 4, 0, 0, 2);
        Check.day(x, "............");
        // b (6) treads, then c (4), then a and c (2 each: the first): all owe 0 or less but for c
        Check.due("one", x, x.even(1), 0, 8, 4, 0);
        Check.due("two", x, x.even(2), 0, 4, 2, 0);
        Check.due("three", x, x.even(3), 0, 4, 2, 0);
        Check.due("four", x, x.even(4), 0, 0, 1, 0);
        Check.due("five", x, x.even(5), 0, 8, 0, 0);
        Check.due("six", x, x.even(6), 0, 3, 0, 1);
        Check.due("another n", x, x.even(0), -1, 3, 0, 1);
        Check.due("another n: 61", x, x.even(61), -1, 3, 0, 1);
        RentByTheWheel y = new RentByTheWheel();
        Check.due("there are none", y, y.even(1), -2);
        Check.due("there are none, another n", y, y.even(0), -1);
        RentByTheWheel z = Check.with("011:0;511:0");
        Check.due("what is owed comes besides", z, z.even(12), 0, 0, 12, 12);
        Check.due("b treads then", z, z.even(13), 0, 0, 11, 12);
    }

    private static void thirst() {
        RentByTheWheel x = Check.with(Check.THREE);
        Check.due("two", x, x.thirst(2), 8, 1, 5);
        Check.due("one", x, x.thirst(1), 3, 0, 3);
        Check.due("60", x, x.thirst(60), 240, 1, 5);
        x.quarter(-1, -1);
        Check.due("from QUARTER 1", x, x.thirst(3), 13, 0, 5);
        Check.due("another n", x, x.thirst(0), -1, 0, 5);
        Check.due("another n: 61", x, x.thirst(61), -1, 0, 5);
        RentByTheWheel y = new RentByTheWheel();
        Check.due("there are none", y, y.thirst(5), 0, 0, 0);
    }

    private static void bath() {
        RentByTheWheel x = Check.with(Check.THREE);
        Check.due("b: 9", x, x.bath(1, 9), 2, 0);
        Check.due("b: 8", x, x.bath(1, 8), 1, 0);
        Check.due("a: 5", x, x.bath(0, 5), -2, 0);
        Check.due("a: 2", x, x.bath(0, 1), 2, 1);
        int[][] wrong = {{3, 1}, {-1, 1}, {0, 0}, {0, 1000}};
        for (int[] w : wrong) {
            Check.due("bath(" + w[0] + ", " + w[1] + ")", x, x.bath(w[0], w[1]), -1, 1);
        }
        Check.due("more than ROOM", x, x.bath(1, 51), -2, 1);
        Check.due("WANTS are taken", x, x.bath(1, 47), 7, 0);
        Check.due("never behind one", x, x.bath(1, 48), -2, 0);
        x.set(2, 50);
        Check.due("behind one QUARTER, not now", x, x.bath(2, 47), 1, 0);
        RentByTheWheel y = Check.with("011:0");
        Check.rule(y, "1");
        y.set(0, 999);
        Check.due("in 60", y, y.bath(0, 60), 60, 0);
        Check.due("not in 60", y, y.bath(0, 61), -2, 0);
    }

    private static void shares() {
        RentByTheWheel x = Check.with(Check.THREE);
        Check.due("as it is", x, x.shares(), 5, 1, 2, 2, 0);
        x.set(1, 9);
        // 9 by 3, 27 by 5, 18 by 2
        Check.due("DUE 9", x, x.shares(), 18, 3, 6, 9, 0);
        x.sheet(3, 0, 0, 0);
        Check.due("PACES 1", x, x.shares(), 54, 9, 27, 18, 6);
        x.set(1, 0);
        Check.due("DUE 0", x, x.shares(), 0, 0, 0, 0, 0);
        x.set(1, 4);
        Check.due("just 12 of 12", x, x.shares(), 24, 4, 12, 8, 0);
        RentByTheWheel y = new RentByTheWheel();
        Check.due("there are none", y, y.shares(), 0, 0);
    }

    private static void fairdue() {
        RentByTheWheel x = Check.with(Check.THREE);
        Check.due("as it is", x, x.fairdue(), 6, 12);
        Check.due("DUE stays", x.count(6), 2);
        x.sheet(3, 0, 0, 0);
        Check.due("PACES 1", x, x.fairdue(), 2, 12);
        RentByTheWheel y = Check.with("511:0;511:0;511:0");
        Check.due("none but 0", y, y.fairdue(), 0, 0);
        RentByTheWheel z = Check.with("091:0");
        Check.due("9", z, z.fairdue(), 9, 1);
        RentByTheWheel w = Check.with("511:0;511:0");
        Check.due("1: 6 and 6", w, w.fairdue(), 1, 12);
    }

    private static void ahead() {
        RentByTheWheel x = Check.with("092:1;292:1");
        Check.due("nothing is paid ahead", x.ahead(0), 0);
        x.quarter(0, -1);
        x.quarter(1, -1);
        // a is 9 ahead and owes 2 a DAY, b owes 6
        Check.due("a", x.ahead(0), 4);
        Check.due("b", x.ahead(1), 1);
        x.set(1, 3);
        Check.due("just 0 at the third", x.ahead(0), 3);
        Check.due("b: just 0", x.ahead(1), 1);
        x.set(1, 0);
        Check.due("nothing is owed", x.ahead(0), 99);
        Check.due("none such", x.ahead(2), -1);
        Check.due("below 0", x.ahead(-1), -1);
        RentByTheWheel y = Check.with("011:0;011:0");
        Check.day(y, "............");
        y.set(1, 0);
        Check.due("it owes now", y.ahead(0), 0);
        Check.day(y, "a");
        Check.due("it owes 1 now", y.ahead(0), 0);
        Check.day(y, "a");
        Check.due("it owes 0 now", y.ahead(0), 99);
        RentByTheWheel z = Check.with("091:0");
        for (int i = 0; i < 12; i++) {
            Check.day(z, "aaaaaaaaaaaa");
        }
        z.set(1, 9);
        Check.due("9 * 144 - 2 * 12, by 9", z.ahead(0), 99);
    }

    private static void changed() {
        RentByTheWheel x = Check.with("011:1;111:4;211:2");
        x.set(2, 4);
        // as it is: a takes 1, b is dry (4 of 3), c takes 2; left 1
        Check.due("a and b: b takes all", x, x.changed(0, 1, 1), 1, 1, 2);
        // b behind c: a 1, c 2, b is dry
        Check.due("b and c", x, x.changed(1, 2, 1), 0, 1, 1);
        Check.due("c and a", x, x.changed(2, 0, 1), 0, 1, 1);
        Check.due("two QUARTERS", x, x.changed(0, 1, 2), 2, 3, 5);
        int[][] wrong = {{0, 0, 1}, {0, 3, 1}, {3, 0, 1}, {-1, 0, 1}, {0, -1, 1}, {0, 1, 0}, {0, 1, 61}};
        for (int[] w : wrong) {
            Check.due("changed", x, x.changed(w[0], w[1], w[2]), -1000, 3, 5);
        }
        Check.due("STOREY stays", x.lodger(0, 0), 0);
        RentByTheWheel y = Check.with("011:4;111:1;211:2");
        y.set(2, 4);
        Check.due("fewer", y, y.changed(0, 1, 1), -1, 2, 1);
    }

    private static void lasts() {
        RentByTheWheel x = Check.with(Check.THREE);
        Check.due("now", x, x.lasts(), 0, 3);
        x.set(2, 20);
        Check.due("behind 5", x, x.lasts(), 5, 3);
        x.set(2, 22);
        Check.due("a has enough", x, x.lasts(), 5, 2);
        RentByTheWheel y = Check.with("011:1");
        y.set(0, 999);
        y.set(2, 98);
        Check.due("in 99", y, y.lasts(), 98, 1);
        y.set(2, 99);
        Check.due("not in 99", y, y.lasts(), -2, 1);
    }
}
