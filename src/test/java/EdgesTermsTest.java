/** Boundary cases that the document's Terms name: a test for each sentence. */
public final class EdgesTermsTest {
    public static void main(String[] args) {
        twelveQuarters();
        sixLodgers();
        wantsByQuarters();
        atFirst();
        paidAhead();
        nobodyOneTwo();
        lesserPace();
        noRuleAtFirst();
        namesOfThings();
        pailsTo99();
        brakesLiftNone();
        cisternAtFirst();
        roomAtMost();
        byLevelAhead();
        wantJustThere();
        byStoreys();
        dayIsOver();
        dueTimesStorey();
        rowsToldLast();
        refusedCallsThatRead();
        Check.end();
    }

    /** A DAY has 12 QUARTERS (0 .. 11): QUARTER NOW % 12, DAY NOW / 12. */
    private static void twelveQuarters() {
        RentByTheWheel x = new RentByTheWheel();
        int[] now = {0, 1, 11, 12, 13, 23, 24, 35, 36};
        int[] quarter = {0, 1, 11, 0, 1, 11, 0, 11, 0};
        int[] day = {0, 0, 0, 1, 1, 1, 2, 2, 3};
        for (int i = 0; i < now.length; i++) {
            while (x.count(1) < now[i]) {
                x.quarter(-1, -1);
            }
            Check.due("NOW", x.count(1), now[i]);
            Check.due("QUARTER at " + now[i], x.count(2), quarter[i]);
            Check.due("DAY at " + now[i], x.count(3), day[i]);
        }
    }

    /** LODGERS 0 .. (at most 6; written a .. f). */
    private static void sixLodgers() {
        RentByTheWheel x = new RentByTheWheel();
        for (int i = 1; i <= 6; i++) {
            Check.due("one more", Check.house(x, "011:0"), 1);
            Check.due("LODGERS", x.count(0), i);
        }
        Check.due("a seventh", Check.house(x, "011:0"), -1);
        Check.due("LODGERS then", x.count(0), 6);
        Check.due("a .. f", Check.day(x, "abcdef"), 6);
        for (int i = 0; i < 6; i++) {
            Check.due("each trod once", x.debt(i), -1);
        }
        Check.due("g", Check.day(x, "g"), -1);
        RentByTheWheel y = Check.with("011:0;011:0;011:0;011:0;011:0;091:0");
        Check.due("f alone", y.lifts(5, -1), 4);
    }

    /** WANTS: the digit q % (how many) of a row of 1 to 12. */
    private static void wantsByQuarters() {
        String[] rows = {"7", "12", "123", "12345", "1234567", "12345678901", "123456789012"};
        for (String row : rows) {
            RentByTheWheel x = Check.with("011:" + row);
            int sum = 0;
            for (int now = 0; now < 26; now++) {
                int want = row.charAt(now % 12 % row.length()) - '0';
                sum += now < 12 ? want : 0;
                Check.due(row + ": WANT at " + now, x.lodger(0, 3), want);
                Check.due(row + ": WANTS of all at " + now, x.count(7), want);
                x.quarter(-1, -1);
            }
            Check.due(row + ": WANTS of a DAY", x.lodger(0, 6), sum);
        }
        Check.due("0 pails", Check.with("011:0").lodger(0, 6), 0);
        Check.due("9 pails", Check.with("011:9").lodger(0, 6), 108);
    }

    /** DEBT (at first 0), DRY (at first 0), BRAKES (at first not): of those who come later too. */
    private static void atFirst() {
        RentByTheWheel x = Check.with("011:9");
        x.brake(0, 1);
        Check.day(x, Edge.times(".", 13));
        Check.due("DEBT of the first", x.debt(0), 2);
        Check.due("DRY of the first", x.lodger(0, 4), 13);
        Check.house(x, "511:9;222:9");
        for (int i = 1; i <= 2; i++) {
            Check.due("DEBT at first", x.debt(i), 0);
            Check.due("DRY at first", x.lodger(i, 4), 0);
            Check.due("BRAKES at first", x.lodger(i, 5), 0);
        }
        Check.due("DEBT of the first stays", x.debt(0), 2);
        Check.due("DRY of the first stays", x.lodger(0, 4), 13);
        Check.due("BRAKES of the first stays", x.lodger(0, 5), 1);
        Check.due("NOW stays", x.count(1), 13);
    }

    /** DEBT in turns (below 0: paid ahead). */
    private static void paidAhead() {
        RentByTheWheel x = Check.with("011:0;091:0");
        x.quarter(0, -1);
        Check.due("one paid ahead", x.debt(0), -1);
        x.quarter(1, -1);
        Check.due("nine paid ahead", x.debt(1), -9);
        Check.day(x, Edge.times(".", 9));
        Check.due("still", x.debt(0), -1);
        x.quarter(-1, -1);
        Check.due("2 are owed, 1 was paid", x.debt(0), 1);
        Check.due("2 are owed, 9 were paid", x.debt(1), -7);
    }

    /** THE WHEEL has one on it, or two, or nobody. */
    private static void nobodyOneTwo() {
        RentByTheWheel x = Check.with("011:0;011:0;011:0");
        Check.rule(x, "n");
        Check.due("nobody", x, x.quarter(-1, -1), 0, 0, 0, 0);
        Check.due("one", x, x.quarter(2, -1), 1, 1, 0, 0);
        Check.due("two", x, x.quarter(2, 0), 5, 4, 0, 0);
        Check.due("nobody's DEBT", x.debt(1), 0);
        Check.due("DEBT of one of two", x.debt(0), -1);
        Check.due("DEBT of who trod twice", x.debt(2), -2);
    }

    /** TURNS in a QUARTER: PACE of the one, the lesser PACE of two. */
    private static void lesserPace() {
        RentByTheWheel x = Check.with("011:0;091:0;091:0");
        Check.rule(x, "t");
        Check.due("the one", x, x.lifts(1, -1), 9, 9, 0);
        Check.due("the lesser of two", x, x.lifts(1, 0), 1, 1, 1);
        Check.due("the lesser of two, the first", x, x.lifts(0, 1), 1, 1, 1);
        Check.due("like PACES", x, x.lifts(1, 2), 9, 9, 9);
        x.quarter(1, 0);
        Check.due("DEBT of the faster", x.debt(1), -1);
        Check.due("DEBT of the slower", x.debt(0), -1);
    }

    /** At first none: t*(w+1)/4, cut. */
    private static void noRuleAtFirst() {
        String[] houses = {"011:0", "012:0", "013:0", "091:0", "019:0", "099:0", "037:0", "076:0"};
        int[] pails = {0, 0, 1, 4, 2, 22, 6, 12};
        for (int i = 0; i < houses.length; i++) {
            Check.due(houses[i], Check.with(houses[i]).lifts(0, -1), pails[i]);
        }
    }

    /** t TURNS, p PACE, w WEIGHT, l LEVEL ahead of the QUARTER, n how many are on it, q the QUARTER, y STOREY. */
    private static void namesOfThings() {
        String[] names = {"t", "p", "w", "l", "n", "q", "y"};
        int[] alone = {9, 9, 1, 0, 1, 0, 5};
        int[] asOneOfTwo = {1, 9, 1, 0, 2, 0, 5};
        int[] asTheOther = {1, 1, 9, 0, 2, 0, 0};
        int[] later = {1, 9, 1, 99, 2, 11, 5};
        for (int i = 0; i < names.length; i++) {
            RentByTheWheel x = Check.with("591:0;019:0");
            Check.rule(x, names[i]);
            Check.due(names[i] + " alone", x.lifts(0, -1), alone[i]);
            Check.due(names[i] + " of two", x, x.lifts(0, 1), asOneOfTwo[i], 1, asTheOther[i]);
            Check.day(x, Edge.times(".", 11));
            x.set(0, 999);
            x.set(2, 999);
            Check.due(names[i] + " in QUARTER 11", x.lifts(0, 1), later[i]);
            x.quarter(-1, -1);
            Check.due(names[i] + " in QUARTER 0", x.lifts(0, 1), i == 5 ? 0 : later[i]);
        }
    }

    /** As ints, put to 0 .. 99: pails that one LIFTS. */
    private static void pailsTo99() {
        String[] rules = {"0", "1", "98", "99", "100", "999", "99+1", "0-1", "-1", "-999", "-999*999*999", "999*999*999*999"};
        int[] pails = {0, 1, 98, 99, 99, 99, 99, 0, 0, 0, 0, 0};
        for (int i = 0; i < rules.length; i++) {
            RentByTheWheel x = Check.with("011:0;011:0");
            x.set(0, 999);
            Check.rule(x, rules[i]);
            Check.due("one by " + rules[i], x.lifts(0, -1), pails[i]);
            Check.due("two by " + rules[i], x, x.quarter(0, 1), 2 * pails[i], 2 * pails[i], 0, 0);
        }
        Check.due("999 to the power 4 goes round", 999 * 999 * 999 * 999 < 0, true);
    }

    /** None, if that one BRAKES; the other one lifts as one of two. */
    private static void brakesLiftNone() {
        RentByTheWheel x = Check.with("011:0;091:0");
        Check.rule(x, "n*10+t");
        Check.due("neither brakes", x, x.quarter(0, 1), 42, 42, 0, 0);
        x.brake(0, 1);
        Check.due("the first brakes", x, x.lifts(0, 1), 0, 1, 21);
        Check.due("the second does not", x, x.lifts(1, 0), 21, 1, 0);
        x.brake(1, 1);
        x.set(2, 0);
        Check.due("both brake", x, x.quarter(0, 1), 0, 0, 0, 0);
        Check.due("DEBT is less all the same", x.debt(0), -2);
        Check.due("of both", x.debt(1), -2);
        Check.due("one that brakes, alone", x, x.quarter(1, -1), 0, 0, 0, 0);
        Check.due("DEBT of the one", x.debt(1), -11);
    }

    /** LEVEL 0 .. ROOM (at first 0; ROOM 1 .. 999, at first 50). DUE 0 .. 9 (at first 2). */
    private static void cisternAtFirst() {
        RentByTheWheel x = new RentByTheWheel();
        Check.due("LEVEL", x.count(4), 0);
        Check.due("ROOM", x.count(5), 50);
        Check.due("DUE", x.count(6), 2);
        Check.due("LEVEL 51", x.set(2, 51), -1);
        Check.due("LEVEL 50", x.set(2, 50), 0);
    }

    /** LEVEL is more, ROOM at most (the rest runs over); and then WANTS are taken. */
    private static void roomAtMost() {
        int[] pails = {5, 6, 7, 99};
        int[] level = {9, 10, 10, 10};
        int[] over = {0, 0, 1, 93};
        for (int i = 0; i < pails.length; i++) {
            RentByTheWheel x = Check.with("011:0");
            x.set(0, 10);
            x.set(2, 4);
            Check.rule(x, "" + pails[i]);
            Check.due("4 and " + pails[i], x, x.quarter(0, -1), level[i], pails[i], over[i], 0);
        }
        RentByTheWheel y = Check.with("011:3");
        y.set(0, 10);
        y.set(2, 10);
        Check.rule(y, "3");
        Check.due("it runs over ahead of WANTS", y, y.quarter(0, -1), 7, 3, 3, 0);
        RentByTheWheel z = Check.with("011:9");
        z.set(0, 1);
        Check.rule(z, "9");
        Check.due("ROOM 1", z, z.quarter(0, -1), 1, 9, 8, 1);
    }

    /** Those on THE WHEEL LIFT, each by LEVEL as it was ahead. */
    private static void byLevelAhead() {
        RentByTheWheel x = Check.with("011:1;011:1");
        Check.rule(x, "l");
        Check.due("an empty one", x, x.quarter(0, 1), 0, 0, 0, 3);
        x.set(2, 5);
        Check.due("5, and 5 twice, less 2", x, x.quarter(0, 1), 13, 10, 0, 0);
    }

    /** Each takes its WANT, if LEVEL is that or more; else it takes nothing and is DRY once more. */
    private static void wantJustThere() {
        int[] ahead = {0, 2, 3, 4};
        int[] behind = {0, 2, 0, 1};
        int[] dry = {1, 1, 0, 0};
        for (int i = 0; i < ahead.length; i++) {
            RentByTheWheel x = Check.with("011:3");
            x.set(2, ahead[i]);
            Check.due("3 of " + ahead[i], x, x.quarter(-1, -1), behind[i], 0, 0, dry[i]);
            Check.due("DRY of 3 of " + ahead[i], x.lodger(0, 4), dry[i]);
        }
        RentByTheWheel y = Check.with("011:0");
        Check.due("0 of 0", y, y.quarter(-1, -1), 0, 0, 0, 0);
        Check.due("who wants nothing is not DRY", y.lodger(0, 4), 0);
    }

    /** By STOREYS from 0 up, in one by numbers. */
    private static void byStoreys() {
        // who is DRY (bits) by how much is there: 5 takes first, then 1 and 3, then 0 and 2, then 4
        String house = "311:1;111:1;311:1;111:1;511:1;011:1";
        int[] dry = {63, 31, 29, 21, 20, 16, 0};
        for (int level = 0; level <= 6; level++) {
            RentByTheWheel x = Check.with(house);
            x.set(2, level);
            Check.due("LEVEL " + level, x, x.quarter(-1, -1), 0, 0, 0, dry[level]);
        }
        RentByTheWheel y = Check.with("511:1;011:9");
        y.set(2, 8);
        Check.due("who is above takes what who is below can't", y, y.quarter(-1, -1), 7, 0, 0, 2);
    }

    /** If a DAY is over by that, each owes. */
    private static void dayIsOver() {
        RentByTheWheel x = Check.with("011:0");
        int[] debts = {0, 0, 0, 0, 0, 0, 0, 0, 0, 0, 0, 2, 2, 2, 2, 2, 2, 2, 2, 2, 2, 2, 2, 4, 4};
        for (int i = 0; i < debts.length; i++) {
            x.quarter(-1, -1);
            Check.due("DEBT at " + (i + 1), x.debt(0), debts[i]);
        }
        RentByTheWheel y = Check.with("011:0");
        Check.day(y, Edge.times(".", 11));
        y.set(1, 7);
        y.quarter(0, -1);
        Check.due("by DUE as it is then, less TURNS", y.debt(0), 6);
        RentByTheWheel z = new RentByTheWheel();
        Check.day(z, Edge.times(".", 11));
        Check.house(z, "111:0");
        z.quarter(-1, -1);
        Check.due("who came for the last QUARTER owes too", z.debt(0), 4);
    }

    /** DEBT is more by DUE times (STOREY and 1). */
    private static void dueTimesStorey() {
        int[] dues = {0, 1, 9};
        for (int due : dues) {
            RentByTheWheel x = Check.with("011:0;111:0;211:0;311:0;411:0;511:0");
            x.set(1, due);
            Check.day(x, Edge.times(".", 12));
            for (int storey = 0; storey <= 5; storey++) {
                Check.due("DUE " + due + ", STOREY " + storey, x.debt(storey), due * (storey + 1));
            }
        }
    }

    /** ROW: numbers told last by a call that says so. */
    private static void rowsToldLast() {
        RentByTheWheel x = Check.with(Check.THREE);
        Check.dueRow("nothing was told", x);
        x.shares();
        Check.dueRow("four numbers", x, 1, 2, 2, 0);
        x.strongest(7);
        Check.dueRow("one number: those ahead of it are gone", x, 11);
        x.pays(0);
        Check.dueRow("an empty row", x);
        x.thirst(1);
        x.ahead(0);
        x.set(1, 2);
        x.brake(0, 0);
        x.sheet(2, 3, 1, 1);
        x.peg(1, 1);
        x.forget();
        x.keep(0);
        x.sign(0);
        x.end(0);
        x.house();
        x.rule();
        x.undo();
        x.again(0);
        x.count(4);
        Check.dueRow("these calls don't say so", x, 0, 3);
    }

    /** Refused calls change nothing but THE TEXT, which a call that reads it empties. */
    private static void refusedCallsThatRead() {
        String[] texts = {"z", "", "~", Edge.times("z", 80)};
        for (String text : texts) {
            RentByTheWheel x = Edge.busy();
            Check.text(x, text);
            x.house();
            Check.due("house empties it", x.count(12), 0);
            Check.text(x, text);
            x.rule();
            Check.due("rule empties it", x.count(12), 0);
            Check.text(x, text);
            x.day();
            Check.due("day empties it", x.count(12), 0);
            Check.text(x, text);
            x.look();
            Check.due("look empties it", x.count(12), 0);
            Check.text(x, text);
            x.values();
            Check.due("values empties it", x.count(12), 0);
        }
        RentByTheWheel y = Edge.busy();
        int signs = y.count(12);
        y.quarter(9, 9);
        y.set(9, 9);
        y.fewest(-1, -1);
        y.lifts(9, 9);
        y.undo();
        y.allot();
        Check.due("others don't", y.count(12), signs);
    }
}
