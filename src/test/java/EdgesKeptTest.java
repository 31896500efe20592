/** Boundary cases of promises 44 to 47: a test for each sentence that names one. */
public final class EdgesKeptTest {
    public static void main(String[] args) {
        twoNumbers();
        keepRefused();
        asTheyWereKept();
        levelRoomAtMost();
        nothingKept();
        lodgersCameSince();
        againRefused();
        countsOfAll();
        countRefused();
        numbersOfTheRow();
        rowRefused();
        Check.end();
    }

    // ---- promise 44

    /** Kept under a number 0 .. 1; what was kept there ahead is gone. */
    private static void twoNumbers() {
        RentByTheWheel x = Check.with(Check.THREE);
        String first = Edge.state(x);
        Check.due("keep(0)", x.keep(0), true);
        x.quarter(1, -1);
        String second = Edge.state(x);
        Check.due("keep(1)", x.keep(1), true);
        x.quarter(1, -1);
        String third = Edge.state(x);
        Check.due("again(0)", x.again(0), true);
        Check.same("under 0", Edge.state(x), first);
        Check.due("again(1)", x.again(1), true);
        Check.same("under 1", Edge.state(x), second);
        x.quarter(1, -1);
        Check.due("keep(0) once more", x.keep(0), true);
        x.again(1);
        x.again(0);
        Check.same("under 0 then", Edge.state(x), third);
        x.again(1);
        Check.same("under 1 still", Edge.state(x), second);
    }

    /** Refused: others. */
    private static void keepRefused() {
        for (int i : new int[] {-1, -2, 2, 3, 32}) {
            Edge.refused("keep(" + i + ")", x -> x.keep(i) ? 1 : 0, 0);
        }
        for (int far : Edge.FAR) {
            Edge.refused("keep(" + far + ")", x -> x.keep(far) ? 1 : 0, 0);
        }
    }

    // ---- promise 45

    /** NOW, LEVEL, DEBTS, DRY are as they were kept; nothing else is. */
    private static void asTheyWereKept() {
        RentByTheWheel x = Check.with(Check.THREE);
        Check.day(x, Edge.times(".", 11));
        String was = Edge.state(x);
        x.keep(0);
        x.quarter(1, 0);
        x.set(0, 60);
        x.set(1, 5);
        x.brake(2, 1);
        x.sheet(2, 3, 7, 1);
        x.peg(1, 1);
        Check.rule(x, "7");
        Check.text(x, "..");
        x.thirst(1);
        Check.due("again", x.again(0), true);
        Check.same("as they were", Edge.state(x), was);
        Check.dueRow("the ROW", x, 0, 3);
        Check.due("ROOM", x.count(5), 60);
        Check.due("DUE", x.count(6), 5);
        Check.due("BRAKES", x.lodger(2, 5), 1);
        Check.due("PACE", x.lodger(0, 1), 7);
        Check.due("what was read", x.count(9), 1);
        Check.due("THE TEXT", x.count(12), 2);
        Check.due("THE RULE", x.lifts(0, -1), 7);
        Check.due("again, once more", x.again(0), true);
        Check.same("as they were, once more", Edge.state(x), was);
        Check.due("what is kept can be undone from", x.undo(), -1);
        RentByTheWheel z = Check.with(Edge.times("011:9;", 5) + "011:9");
        z.keep(0);
        Check.day(z, "abcdef");
        z.again(0);
        for (int i = 0; i < 6; i++) {
            Check.due("DEBT of " + i, z.debt(i), 0);
            Check.due("DRY of " + i, z.lodger(i, 4), 0);
        }
        RentByTheWheel y = new RentByTheWheel();
        Check.due("of nobody", y.keep(1), true);
        y.quarter(-1, -1);
        Check.due("again of nobody", y.again(1), true);
        Check.due("NOW", y.count(1), 0);
    }

    /** LEVEL ROOM at most. */
    private static void levelRoomAtMost() {
        int[] rooms = {19, 20, 21, 999, 1};
        int[] levels = {19, 20, 20, 20, 1};
        RentByTheWheel x = Check.with(Check.THREE);
        x.set(2, 20);
        x.keep(0);
        for (int i = 0; i < rooms.length; i++) {
            x.set(0, rooms[i]);
            x.set(2, 0);
            Check.due("again in ROOM " + rooms[i], x.again(0), true);
            Check.due("LEVEL in ROOM " + rooms[i], x.count(4), levels[i]);
            Check.due("ROOM stays", x.count(5), rooms[i]);
        }
        x.set(0, 999);
        x.set(2, 999);
        x.keep(1);
        x.set(2, 0);
        x.again(1);
        Check.due("999 are kept", x.count(4), 999);
    }

    /** Refused: nothing kept. */
    private static void nothingKept() {
        Edge.refused("again(0)", EdgesKeptTest::keptUnder1, x -> x.again(0) ? 1 : 0, 0);
        Edge.refused("again(1)", EdgesKeptTest::keptUnder0, x -> x.again(1) ? 1 : 0, 0);
        Check.due("at first", new RentByTheWheel().again(0), false);
        Check.due("at first, 1", new RentByTheWheel().again(1), false);
    }

    private static RentByTheWheel keptUnder0() {
        RentByTheWheel x = Check.with(Check.THREE);
        x.quarter(1, -1);
        x.keep(0);
        x.quarter(0, -1);
        return x;
    }

    private static RentByTheWheel keptUnder1() {
        RentByTheWheel x = Check.with(Check.THREE);
        x.quarter(1, -1);
        x.keep(1);
        x.quarter(0, -1);
        return x;
    }

    /** Refused: LODGERS came since. */
    private static void lodgersCameSince() {
        RentByTheWheel x = keptUnder0();
        Check.house(x, "");
        Check.house(x, "6");
        Check.house(x, "011:0;011:0;011:0;011:0");
        Check.due("none came", x.again(0), true);
        Check.house(x, "011:0");
        x.quarter(3, -1);
        String was = Edge.state(x);
        Check.due("one came", x.again(0), false);
        Check.same("it is as it was", Edge.state(x), was);
        Check.due("it can be undone", x.count(10), 1);
        Check.due("kept since", x.keep(1), true);
        x.quarter(3, -1);
        Check.due("under 0 still not", x.again(0), false);
        Check.due("under 1", x.again(1), true);
        Check.same("as it was kept", Edge.state(x), was);
        Check.house(x, "011:0;011:0");
        Check.due("six: under 1 no more", x.again(1), false);
        RentByTheWheel y = new RentByTheWheel();
        y.keep(0);
        Check.house(y, "011:0");
        Check.due("the first came", y.again(0), false);
    }

    /** Refused: others; and all is as it was. */
    private static void againRefused() {
        for (int i : new int[] {-1, -2, 2, 3, 32}) {
            Edge.refused("again(" + i + ")", x -> x.again(i) ? 1 : 0, 0);
        }
        for (int far : Edge.FAR) {
            Edge.refused("again(" + far + ")", x -> x.again(far) ? 1 : 0, 0);
        }
    }

    // ---- promise 46

    /** What 0 .. 12, each when it is full. */
    private static void countsOfAll() {
        RentByTheWheel x = Check.with(Edge.times("011:9;", 5) + "011:9");
        x.set(0, 999);
        x.set(2, 999);
        x.set(1, 9);
        for (int i = 0; i < 13; i++) {
            x.quarter(-1, -1);
            x.peg(1, 1);
        }
        for (int i = 0; i < 21; i++) {
            x.sign(i);
        }
        x.set(2, 999);
        x.fewest(63, 12);
        int[] due = {6, 13, 1, 1, 999, 999, 9, 54, 0, 12, 12, 12, 80};
        for (int what = 0; what < due.length; what++) {
            Check.due("full: count(" + what + ")", x.count(what), due[what]);
        }
        x.set(2, 53);
        x.quarter(-1, -1);
        Check.due("one was DRY", x.count(8), 1);
        x.quarter(-1, -1);
        Check.due("all were DRY", x.count(8), 7);
    }

    /** NONE for another what. */
    private static void countRefused() {
        for (int what : new int[] {-1, -2, 13, 14, 32}) {
            Edge.refused("count(" + what + ")", x -> x.count(what), -1);
        }
        for (int far : Edge.FAR) {
            Edge.refused("count(" + far + ")", x -> x.count(far), -1);
        }
        for (int what = 0; what <= 12; what++) {
            int w = what;
            Edge.question("count(" + w + ")", x -> x.count(w));
        }
    }

    // ---- promise 47

    /** Number i of the ROW: the first and the last. */
    private static void numbersOfTheRow() {
        RentByTheWheel x = Check.with("011:1");
        Check.rule(x, "1");
        x.fewest(1, 12);
        for (int i = 0; i < 12; i++) {
            Check.due("row(" + i + ")", x.row(i), 0);
        }
        Check.dueNoSuch("row(12)", () -> x.row(12));
        x.strongest(1);
        Check.due("row(0)", x.row(0), 1);
        Check.dueNoSuch("row(1)", () -> x.row(1));
        x.pays(0);
        Check.dueNoSuch("row(0) of an empty one", () -> x.row(0));
        // more than an int can hold
        x.set(1, 9);
        x.owes(0, 12, 9);
        Check.due("a long", x.row(0) > Integer.MAX_VALUE, true);
    }

    /** NoSuchElementException: none such. */
    private static void rowRefused() {
        // two numbers were told last there
        for (int i : new int[] {-1, -2, 2, 3, 12, 13}) {
            Edge.thrown("row(" + i + ")", x -> x.row(i));
        }
        for (int far : Edge.FAR) {
            Edge.thrown("row(" + far + ")", x -> x.row(far));
        }
        Edge.question("row(1)", x -> x.row(1));
        RentByTheWheel y = new RentByTheWheel();
        Check.dueNoSuch("row(0) at first", () -> y.row(0));
    }
}
