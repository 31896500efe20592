/** Promises 32 to 34. */
public final class RentTest {
    public static void main(String[] args) {
        values();
        faults();
        allot();
        rents();
        rentsOfFour();
        Check.end();
    }

    private static void values() {
        RentByTheWheel x = Check.with(Check.THREE);
        Check.due("none were told", x.allot(), -2);
        Check.due("no rents", x.rents(0), -2);
        Check.due("two", Check.values(x, "53/26"), 2);
        Check.due("it is read", x.count(12), 0);
        Check.due("four, of three LODGERS", Check.values(x, "1111/1111/1111/1111"), -100);
        Check.due("it is emptied", x.count(12), 0);
        Check.due("those told ahead stay", x.allot(), 11);
        Check.due("signs first", Check.values(x, "1111/1111/1111/111"), -19);
        Check.due("three", Check.values(x, "123/456/789"), 3);
        Check.due("allot", x, x.allot(), 15, 0, 1, 2);
        RentByTheWheel y = new RentByTheWheel();
        Check.due("of nobody", Check.values(y, "12/34"), -100);
        RentByTheWheel z = Check.with("011:0");
        Check.due("of one", Check.values(z, "12/34"), -100);
        Check.due("none were told", z.allot(), -2);
    }

    private static void faults() {
        RentByTheWheel x = Check.with("011:0;011:0;011:0;011:0");
        Check.values(x, "53/26");
        String[] wrong = {"", "5", "/", "5/", "12", "12345", "12/", "12/3", "12/345", "12/34/", "12//", "12/3/", "123/456", "123/45/",
            "123/456/7890", "1234/12345", "1 ", "12/34 ", "1234/1234/1234/12345", "12/34/56", "a", "12a"};
        int[] at = {0, 1, 0, 1, 2, 4, 3, 4, 5, 5, 3, 4, 7, 6, 11, 9, 1, 5, 19, 5, 0, 2};
        for (int i = 0; i < wrong.length; i++) {
            Check.due("values " + wrong[i], Check.values(x, wrong[i]), -1 - at[i]);
            Check.due("it is emptied", x.count(12), 0);
            Check.due("those told ahead stay", x.allot(), 11);
        }
        Check.due("four", Check.values(x, "1234/2345/3456/4567"), 4);
    }

    private static void allot() {
        RentByTheWheel x = Check.with("011:0;011:0;011:0;011:0");
        Check.values(x, "19/91");
        Check.due("crosswise", x, x.allot(), 18, 1, 0);
        Check.values(x, "00/00");
        Check.due("nothing is worth anything", x, x.allot(), 0, 0, 1);
        Check.values(x, "090/900/009");
        Check.due("three", x, x.allot(), 27, 1, 0, 2);
        Check.values(x, "009/900/090");
        Check.due("three in a ring", x, x.allot(), 27, 2, 0, 1);
        Check.values(x, "0009/0090/0900/9000");
        Check.due("four turned round", x, x.allot(), 36, 3, 2, 1, 0);
        Check.values(x, "9999/9000/9000/9090");
        Check.due("of as good ones the least row", x, x.allot(), 27, 1, 0, 3, 2);
    }

    private static void rents() {
        RentByTheWheel x = Check.with(Check.THREE);
        Check.values(x, "53/26");
        // r0 - r1 from -4 to 2
        Check.due("0", x, x.rents(0), 1, 0, 0);
        Check.due("3", x, x.rents(3), 3, 0, 3);
        Check.due("4", x, x.rents(4), 4, 0, 4);
        Check.due("5", x, x.rents(5), 3, 1, 4);
        Check.due("24", x, x.rents(24), 1, 12, 12);
        Check.due("25: none", x, x.rents(25), 0);
        Check.due("48: none", x, x.rents(48), 0);
        Check.due("4 once more", x, x.rents(4), 4, 0, 4);
        Check.due("49", x, x.rents(49), -1, 0, 4);
        Check.due("-1", x, x.rents(-1), -1, 0, 4);
        Check.values(x, "09/09");
        // a has STOREY 0, b STOREY 1: 0 - r0 >= 9 - r1 and 9 - r1 >= 0 - r0: r1 = r0 + 9
        Check.due("both like it: 9", x, x.rents(9), 1, 0, 9);
        Check.due("both like it: 15", x, x.rents(15), 1, 3, 12);
        Check.due("both like it: 16", x, x.rents(16), 0);
        Check.due("both like it: 8", x, x.rents(8), 0);
        Check.values(x, "19/91");
        // a has STOREY 1, b STOREY 0
        Check.due("crosswise", x, x.rents(2), 3, 0, 2);
    }

    private static void rentsOfFour() {
        RentByTheWheel x = Check.with("011:0;011:0;011:0;011:0");
        Check.values(x, "0000/0000/0000/0000");
        Check.due("all alike: 48", x, x.rents(48), 1, 12, 12, 12, 12);
        Check.due("all alike: 4", x, x.rents(4), 1, 1, 1, 1, 1);
        Check.due("all alike: 5", x, x.rents(5), 0);
        Check.values(x, "9000/0900/0090/0009");
        // any rows that differ by 9 at most
        Check.due("47", x, x.rents(47), 4, 11, 12, 12, 12);
        Check.due("0", x, x.rents(0), 1, 0, 0, 0, 0);
        Check.due("1", x, x.rents(1), 4, 0, 0, 0, 1);
        Check.due("10: all but those with a 10", x, x.rents(10), 286 - 4, 0, 0, 1, 9);
    }
}
