/** Promises 41 to 43. */
public final class YearsTest {
    public static void main(String[] args) {
        owes();
        fund();
        years();
        Check.end();
    }

    private static void owes() {
        RentByTheWheel x = Check.with(Check.THREE);
        Check.due("one DAY", x, x.owes(1, 1, 5), 0, 6, 1);
        Check.due("6 + 3", x, x.owes(1, 2, 5), 0, 9, 1);
        Check.due("6 + 3 + 3/2", x, x.owes(1, 3, 5), 0, 21, 2);
        Check.due("for ever", x, x.owes(0, 12, 10), 0, 24, 1);
        Check.due("the first alone", x, x.owes(0, 12, 0), 0, 2, 1);
        Check.due("2 + 6/10 + 18/100", x, x.owes(0, 3, 3), 0, 139, 50);
        // 2 times (10^12 - 9^12) by 10^11
        Check.due("12 DAYS by 9 tenths", x, x.owes(0, 12, 9), 0, 717570463519L, 50000000000L);
        int[][] wrong = {{3, 1, 1}, {-1, 1, 1}, {0, 0, 1}, {0, 13, 1}, {0, 1, -1}, {0, 1, 11}};
        for (int[] w : wrong) {
            Check.due("owes", x, x.owes(w[0], w[1], w[2]), -1, 717570463519L, 50000000000L);
        }
        x.set(1, 0);
        Check.due("nothing", x, x.owes(0, 12, 7), 0, 0, 1);
        RentByTheWheel y = Check.with("511:0");
        y.set(1, 9);
        Check.due("54 times 12", y, y.owes(0, 12, 10), 0, 648, 1);
        Check.due("54 and 9 tenths", y, y.owes(0, 2, 9), 0, 513, 5);
    }

    private static void fund() {
        RentByTheWheel x = Check.with(Check.THREE);
        Check.due("21/2", x, x.fund(1, 3, 5), 11, 3);
        Check.due("9", x, x.fund(1, 2, 5), 9, 2);
        Check.due("12 DAYS by 9 tenths: 14.35", x, x.fund(0, 12, 9), 15, 5);
        x.quarter(1, -1);
        Check.due("5 paid ahead", x, x.fund(1, 3, 5), 6, 2);
        x.quarter(1, -1);
        Check.due("10 paid ahead: a half is left", x, x.fund(1, 3, 5), 1, 1);
        Check.due("10 paid ahead of 9", x, x.fund(1, 2, 5), 0, 0);
        x.quarter(1, -1);
        Check.due("more is paid than that", x, x.fund(1, 3, 5), 0, 0);
        int[][] wrong = {{3, 1, 1}, {-1, 1, 1}, {0, 0, 1}, {0, 13, 1}, {0, 1, -1}, {0, 1, 11}};
        for (int[] w : wrong) {
            Check.due("fund", x, x.fund(w[0], w[1], w[2]), -1, 0);
        }
        Check.day(x, ".........");
        Check.due("DEBT of c", x.debt(2), 4);
        Check.due("DEBT comes besides", x, x.fund(2, 1, 0), 8, 4);
        x.set(1, 0);
        Check.due("DEBT alone", x, x.fund(2, 1, 0), 4, 2);
    }

    private static void years() {
        RentByTheWheel x = Check.with(Check.THREE);
        x.set(2, 7);
        x.quarter(-1, -1);
        for (int n = 1; n <= 20; n++) {
            int seed = n * 77777777;
            dueYears(x, seed, n);
            dueYears(x, -seed, n);
        }
        Check.due("another n", x.years(1, 0), -1);
        Check.due("another n: 21", x.years(1, 21), -1);
        RentByTheWheel y = new RentByTheWheel();
        Check.due("there are none", y, y.years(5, 3), 0, 0, -1, 0);
        RentByTheWheel z = Check.with("011:0;011:0;011:1");
        Check.due("c is dry in all of them", z, z.years(0, 20), 240, 0, 2, 240);
        Check.due("and was not by that", z.lodger(2, 4), 0);
        z.quarter(-1, -1);
        Check.due("DRY from now on alone", z, z.years(0, 1), 12, 0, 2, 12);
        RentByTheWheel w = Check.with("011:0;011:1;011:1");
        Check.due("of equal ones the first", w, w.years(0, 1), 24, 0, 1, 12);
    }

    /** What is drawn is what a day() of the letters drawn does, a DAY at a time. */
    private static void dueYears(RentByTheWheel x, int seed, int n) {
        RentByTheWheel twin = Check.with(Check.THREE);
        twin.set(2, x.count(4));
        twin.quarter(-1, -1);
        twin.set(2, x.count(4));
        int[] before = {twin.lodger(0, 4), twin.lodger(1, 4), twin.lodger(2, 4)};
        long r = seed;
        int dry = 0;
        for (int d = 0; d < n; d++) {
            StringBuilder letters = new StringBuilder();
            for (int q = 0; q < 12; q++) {
                r = (r * 1103515245L + 12345L) & 0xffffffffL;
                letters.append("abc.".charAt((int) (r / 65536 % 4)));
            }
            Check.due("twelve go by", Check.day(twin, letters.toString()), 12);
            dry += twin.row(1);
        }
        int who = -1;
        int most = 0;
        for (int i = 0; i < 3; i++) {
            int times = twin.lodger(i, 4) - before[i];
            if (times > most) {
                most = times;
                who = i;
            }
        }
        Check.due("years(" + seed + ", " + n + ")", x, x.years(seed, n), dry, twin.count(4), who, most);
    }
}
