/** Promises 44 to 47. */
public final class KeptTest {
    public static void main(String[] args) {
        keep();
        lodgersCame();
        count();
        row();
        Check.end();
    }

    private static void keep() {
        RentByTheWheel x = Check.with(Check.THREE);
        Check.due("nothing is kept", x.again(0), false);
        Check.due("keep(2)", x.keep(2), false);
        Check.due("keep(-1)", x.keep(-1), false);
        Check.due("again(2)", x.again(2), false);
        Check.due("again(-1)", x.again(-1), false);
        Check.day(x, ".b.a........");
        String first = told(x);
        Check.due("keep(0)", x.keep(0), true);
        Check.due("nothing under 1", x.again(1), false);
        Check.day(x, "bbbbb");
        String second = told(x);
        Check.due("keep(1)", x.keep(1), true);
        Check.day(x, "c");
        Check.due("again(0)", x.again(0), true);
        Check.same("as it was", told(x), first);
        Check.due("again(1)", x.again(1), true);
        Check.same("as it was then", told(x), second);
        Check.due("again(0) once more", x.again(0), true);
        Check.same("as it was once more", told(x), first);
        Check.due("again(1) once more", x.again(1), true);
        x.set(0, 9);
        x.brake(0, 1);
        x.set(1, 7);
        Check.due("again with less ROOM", x.again(1), true);
        Check.due("ROOM at most", x.count(4), 9);
        Check.due("DUE stays", x.count(6), 7);
        Check.due("BRAKES stay", x.lodger(0, 5), 1);
        x.set(0, 50);
        Check.due("again with more ROOM", x.again(1), true);
        Check.same("LEVEL as it was kept", told(x), second);
    }

    private static String told(RentByTheWheel x) {
        StringBuilder b = new StringBuilder();
        b.append(x.count(1)).append(' ').append(x.count(4));
        for (int i = 0; i < x.count(0); i++) {
            b.append(' ').append(x.debt(i)).append(' ').append(x.lodger(i, 4));
        }
        return b.toString();
    }

    private static void lodgersCame() {
        RentByTheWheel x = new RentByTheWheel();
        Check.due("keep of nobody", x.keep(0), true);
        x.quarter(-1, -1);
        Check.due("again of nobody", x.again(0), true);
        Check.due("NOW", x.count(1), 0);
        Check.house(x, "011:0");
        Check.due("one came", x.again(0), false);
        x.keep(0);
        Check.house(x, "x");
        Check.house(x, "");
        Check.due("none came since", x.again(0), true);
        Check.house(x, "011:0");
        Check.due("another came", x.again(0), false);
        Check.due("nothing under 1", x.again(1), false);
    }

    private static void count() {
        RentByTheWheel x = Check.with(Check.THREE);
        Check.day(x, "..............b");
        x.quarter(1, -1);
        x.set(0, 77);
        x.set(1, 5);
        x.peg(1, 1);
        x.peg(1, 1);
        x.sign(0);
        x.end(3);
        // DRY: 2 in each of 14 QUARTERS; b lifts 11 of which 3 go, then 11 of which 5 go
        int[] due = {3, 16, 4, 1, 14, 77, 5, 3, 28, 2, 2, 3, 3};
        for (int what = 0; what < due.length; what++) {
            Check.due("count(" + what + ")", x.count(what), due[what]);
        }
        Check.due("count(13)", x.count(13), -1);
        Check.due("count(-1)", x.count(-1), -1);
    }

    private static void row() {
        RentByTheWheel x = Check.with(Check.THREE);
        x.quarter(1, -1);
        Check.dueRow("quarter", x, 11, 0, 0);
        x.set(0, 40);
        x.brake(0, 1);
        x.keep(0);
        x.debt(0);
        x.count(0);
        x.undo();
        x.again(0);
        x.peg(1, 1);
        x.forget();
        x.ahead(0);
        Check.house(x, "");
        Check.rule(x, "1");
        Check.values(x, "12/34");
        Check.dueRow("these tell no ROW", x, 11, 0, 0);
        Check.day(x, "x");
        Check.look(x, "x");
        x.quarter(9, 9);
        x.even(0);
        x.lifts(9, 9);
        Check.dueRow("nor do refused calls", x, 11, 0, 0);
        x.set(2, 40);
        Check.due("not in 60", x.bath(0, 999), -2);
        Check.dueRow("nor what can't be", x, 11, 0, 0);
        x.thirst(1);
        Check.dueRow("thirst does", x, 0, 5);
    }
}
