/** Promises 12 to 15. */
public final class QuarterTest {
    public static void main(String[] args) {
        quarter();
        orderOfStoreys();
        endOfDay();
        day();
        dayFaults();
        dayTillOneCant();
        look();
        undo();
        undoForgotten();
        Check.end();
    }

    private static void quarter() {
        RentByTheWheel x = Check.with(Check.THREE);
        Check.due("nobody", x, x.quarter(-1, -1), 0, 0, 0, 3);
        Check.due("one", x, x.quarter(1, -1), 6, 11, 0, 0);
        Check.due("two", x, x.quarter(1, 0), 12, 9, 0, 0);
        Check.due("DEBT of a", x.debt(0), -3);
        Check.due("DEBT of b", x.debt(1), -8);
        Check.due("DEBT of c", x.debt(2), 0);
        int[][] wrong = {{3, -1}, {-1, 0}, {0, 0}, {0, 3}, {-2, -1}, {0, -2}, {-2, -2}};
        for (int[] w : wrong) {
            Check.due("quarter(" + w[0] + ", " + w[1] + ")", x, x.quarter(w[0], w[1]), -2, 9, 0, 0);
        }
        Check.due("NOW", x.count(1), 3);
        Check.due("can be undone", x.count(10), 3);
        x.set(0, 14);
        Check.due("it runs over", x, x.quarter(1, -1), 9, 11, 9, 0);
        Check.due("DRY of all", x.count(8), 2);
        // each lifts by LEVEL as it was ahead, though the other lifts besides
        Check.rule(x, "l-6");
        Check.due("by LEVEL ahead", x, x.quarter(0, 1), 11, 6, 1, 0);
        RentByTheWheel y = new RentByTheWheel();
        Check.due("an empty house", y, y.quarter(-1, -1), 0, 0, 0, 0);
        Check.due("nobody is there", y, y.quarter(0, -1), -2, 0, 0, 0);
    }

    private static void orderOfStoreys() {
        // a on storey 3 wants 2, b and c on storey 1 want 3 and 1, d on storey 0 wants 9
        RentByTheWheel x = Check.with("311:2;111:3;111:1;011:9");
        x.set(2, 4);
        // d gets nothing, b takes 3, c takes 1, a is left dry
        Check.due("by storeys", x, x.quarter(-1, -1), 0, 0, 0, 9);
        x.set(2, 2);
        // b wants 3 of 2: none; c takes 1; a wants 2 of 1: none
        Check.due("one who is dry takes nothing", x, x.quarter(-1, -1), 1, 0, 0, 11);
        Check.due("DRY of a", x.lodger(0, 4), 2);
        Check.due("DRY of b", x.lodger(1, 4), 1);
        Check.due("DRY of c", x.lodger(2, 4), 0);
        Check.due("DRY of d", x.lodger(3, 4), 2);
        Check.due("DRY of all", x.count(8), 5);
        Check.due("WANTS of all", x.count(7), 15);
    }

    private static void endOfDay() {
        RentByTheWheel x = Check.with("011:0;511:0");
        x.set(1, 3);
        for (int q = 0; q < 11; q++) {
            x.quarter(-1, -1);
        }
        Check.due("not yet", x.debt(1), 0);
        Check.due("QUARTER", x.count(2), 11);
        x.quarter(1, -1);
        Check.due("DEBT of a", x.debt(0), 3);
        Check.due("DEBT of b", x.debt(1), 17);
        Check.due("QUARTER then", x.count(2), 0);
        Check.due("DAY then", x.count(3), 1);
        Check.due("NOW then", x.count(1), 12);
    }

    private static void day() {
        RentByTheWheel x = Check.with(Check.THREE);
        Check.due("an empty one", x, Check.day(x, ""), 0, 0, 0, 0);
        Check.due("can be undone", x.count(10), 0);
        Check.due("a day", x, Check.day(x, ".b[ab][ba]c"), 5, 14, 2, 0);
        Check.due("NOW", x.count(1), 5);
        Check.due("DEBT of a", x.debt(0), -6);
        Check.due("DEBT of b", x.debt(1), -11);
        Check.due("DEBT of c", x.debt(2), -2);
        Check.due("as one", x.count(10), 1);
        x.set(0, 20);
        Check.due("it runs over", x, Check.day(x, "bb"), 2, 17, 0, 5 + 6);
        String long48 = "................................................";
        Check.due("48 signs", Check.day(x, long48), 48);
        Check.due("NOW then", x.count(1), 55);
        Check.due("the text is read", x.count(12), 0);
    }

    private static void dayFaults() {
        RentByTheWheel x = Check.with(Check.THREE);
        String[] wrong = {"x", "g", "A", "]", "a]", ".[", "[.", "[]", "[a", "[a]", "[aa]", "[ab", "[abc]", "[ab]]", "[a.", "[[",
            "a;", "[af", "[ag]"};
        int[] at = {0, 0, 0, 0, 1, 2, 1, 1, 2, 2, 2, 3, 3, 4, 2, 1, 1, 3, 2};
        for (int i = 0; i < wrong.length; i++) {
            Check.due("day " + wrong[i], Check.day(x, wrong[i]), -1 - at[i]);
            Check.due("look " + wrong[i], Check.look(x, wrong[i]), -1 - at[i]);
            Check.due("it is emptied", x.count(12), 0);
        }
        String dots = ".............................................";
        Check.due("45 and [ab]", Check.day(x, dots + "[ab]"), -49);
        Check.due("49", Check.day(x, dots + "...."), -49);
        Check.due("48 that end too early", Check.day(x, dots + "[ab"), -49);
        Check.due("50, wrong ahead", Check.day(x, dots + "[aa].."), -48);
        Check.due("nothing went by", x.count(1), 0);
        Check.due("no ROW was told", x.count(11), 0);
    }

    private static void dayTillOneCant() {
        RentByTheWheel x = Check.with(Check.THREE);
        Check.due("none such at first", x, Check.day(x, "d.."), 0, 0, 0, 0);
        Check.due("nothing can be undone", x.count(10), 0);
        Check.due("none such later", x, Check.day(x, "bbda"), 2, 14, 0, 0);
        Check.due("none such of two", x, Check.day(x, ".[ad]"), 1, 11, 0, 0);
        Check.due("none such of two, the first", x, Check.day(x, "[da]"), 0, 11, 0, 0);
        Check.due("NOW", x.count(1), 3);
        Check.due("two can be undone", x.count(10), 2);
    }

    private static void look() {
        RentByTheWheel x = Check.with(Check.THREE);
        x.quarter(1, -1);
        String was = Check.told(x);
        Check.due("look", x, Check.look(x, "bb[ab]....."), 8, 7, 0, 0);
        Check.due("look, with one that can't", x, Check.look(x, "bbd"), 2, 22, 0, 0);
        Check.due("look at nothing", x, Check.look(x, ""), 0, 8, 0, 0);
        Check.same("nothing changes", Check.told(x), was);
        Check.due("day does it", x, Check.day(x, "bb[ab]....."), 8, 7, 0, 0);
    }

    private static void undo() {
        RentByTheWheel x = Check.with(Check.THREE);
        Check.due("none", x.undo(), -1);
        String[] was = new String[15];
        for (int i = 0; i < 15; i++) {
            was[i] = state(x);
            if (i % 3 == 0) {
                Check.day(x, "b.a");
            } else {
                x.quarter(i % 2, i % 3 == 1 ? -1 : 2);
            }
            Check.due("can be undone", x.count(10), Math.min(12, i + 1));
        }
        for (int i = 14; i >= 3; i--) {
            Check.due("undo", x.undo(), i - 3);
            Check.same("as ahead of it", state(x), was[i]);
        }
        Check.due("no more", x.undo(), -1);
        x.set(2, 40);
        x.quarter(-1, -1);
        x.set(0, 10);
        Check.due("undo with less ROOM", x.undo(), 0);
        Check.due("LEVEL, ROOM at most", x.count(4), 10);
    }

    private static String state(RentByTheWheel x) {
        StringBuilder b = new StringBuilder();
        b.append(x.count(1)).append(' ').append(x.count(4));
        for (int i = 0; i < x.count(0); i++) {
            b.append(' ').append(x.debt(i)).append(' ').append(x.lodger(i, 4));
        }
        return b.toString();
    }

    private static void undoForgotten() {
        RentByTheWheel x = Check.with(Check.THREE);
        x.quarter(1, -1);
        x.quarter(1, -1);
        Check.house(x, "");
        Check.due("an empty house forgets nothing", x.count(10), 2);
        Check.house(x, "0");
        Check.due("a refused one neither", x.count(10), 2);
        x.again(0);
        Check.due("nor a refused again", x.count(10), 2);
        x.keep(0);
        Check.due("nor keep", x.count(10), 2);
        Check.house(x, "011:1");
        Check.due("a house does", x.count(10), 0);
        Check.due("undo", x.undo(), -1);
        x.quarter(-1, -1);
        x.again(0);
        Check.due("LODGERS came: refused", x.count(10), 1);
        x.keep(0);
        x.again(0);
        Check.due("again forgets them", x.count(10), 0);
    }
}
