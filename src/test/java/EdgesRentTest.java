/** Boundary cases of promises 32 to 34: a test for each sentence that names one. */
public final class EdgesRentTest {
    public static void main(String[] args) {
        rowsAndDigits();
        signsOfValues();
        valuesEndTooEarly();
        fifthDigit();
        fewerLodgers();
        refusedValuesStay();
        noValues();
        leastRowOfStoreys();
        rentsInAll();
        rents0To12();
        nobodyWouldHaveMore();
        rentsRefused();
        questions();
        Check.end();
    }

    private static RentByTheWheel four() {
        return Check.with("011:0;011:0;011:0;011:0");
    }

    // ---- promise 32

    /** k rows of k digits (k 2 .. 4, by the first row), with / between: k. */
    private static void rowsAndDigits() {
        Check.due("2", Check.values(four(), "00/99"), 2);
        Check.due("3", Check.values(four(), "000/999/555"), 3);
        Check.due("4", Check.values(four(), "0000/9999/5555/1234"), 4);
        Check.due("1", Check.values(four(), "0"), -2);
        Check.due("1, with / behind it", Check.values(four(), "0/"), -2);
        Check.due("5", Check.values(four(), "00000/00000/00000/00000/00000"), -5);
        Check.due("one row too many of 2", Check.values(four(), "00/99/"), -6);
        Check.due("one row too many of 4", Check.values(four(), "0000/9999/5555/1234/"), -20);
        Check.due("a row too long of 2", Check.values(four(), "00/999"), -6);
        Check.due("a row too short of 3", Check.values(four(), "000/99/555"), -7);
        Check.due("none", Check.values(four(), ""), -1);
    }

    /** -1 - p: the sign at p can't stand there. */
    private static void signsOfValues() {
        String digits = Edge.DIGITS;
        String both = digits + "/";
        String[] texts = {"", "1", "12", "123", "1234", "12/", "12/3", "12/34", "123/", "123/4", "123/45", "123/456", "123/456/", "123/456/78", "123/456/789",
            "1234/", "1234/5", "1234/567", "1234/5678", "1234/5678/9012/", "1234/5678/9012", "1234/5678/9012/345", "1234/5678/9012/3456"};
        String[] signs = {digits, digits, both, both, "/", digits, digits, "", digits, digits, digits, "/", digits, digits, "",
            digits, digits, digits, "/", digits, "/", digits, ""};
        for (int i = 0; i < texts.length; i++) {
            Edge.stand("values", texts[i], signs[i], EdgesRentTest::four, RentByTheWheel::values);
            Edge.stand("values of nobody", texts[i], signs[i], RentByTheWheel::new, RentByTheWheel::values);
        }
    }

    /** Its end, if it ends too early. */
    private static void valuesEndTooEarly() {
        String[] whole = {"12/34", "123/456/789", "1234/5678/9012/3456"};
        for (String text : whole) {
            for (int n = 0; n < text.length(); n++) {
                RentByTheWheel x = four();
                Check.due(text + " ends at " + n, Check.values(x, text.substring(0, n)), -1 - n);
                Check.due("no VALUES were told", x.allot(), -2);
            }
        }
    }

    /** A fifth digit of the first row. */
    private static void fifthDigit() {
        Edge.refusedText("values", "12345", RentByTheWheel::values, -5);
        Edge.refusedText("values", "12345/", RentByTheWheel::values, -5);
        Edge.refusedText("values", Edge.times("1", 80), RentByTheWheel::values, -5);
    }

    /** -100: there are fewer than k LODGERS (asked behind the signs; those told ahead stay then). */
    private static void fewerLodgers() {
        String[] texts = {"12/34", "123/456/789", "1234/5678/9012/3456"};
        for (int many = 0; many <= 6; many++) {
            for (int k = 2; k <= 4; k++) {
                RentByTheWheel x = new RentByTheWheel();
                Check.house(x, many == 0 ? "" : Edge.times("011:0;", many - 1) + "011:0");
                Check.due(k + " for " + many, Check.values(x, texts[k - 2]), many < k ? -100 : k);
                Check.due(k + " for " + many + ": were told", x.allot() >= 0, many >= k);
            }
        }
        Edge.refusedText("values", "1234/5678/9012/3456", RentByTheWheel::values, -100);
        Edge.refusedText("signs first: values", "1234/5678/9012/345", RentByTheWheel::values, -19);
        Edge.refusedText("signs first: values", "1234/5678/9012/3456/", RentByTheWheel::values, -20);
        RentByTheWheel y = Check.with("011:0;011:0");
        Check.due("three for two", Check.values(y, texts[1]), -100);
        Check.house(y, "011:0");
        Check.due("they were not told", y.allot(), -2);
        Check.due("three for three", Check.values(y, texts[1]), 3);
    }

    /** Refused calls change nothing: those told ahead stay. */
    private static void refusedValuesStay() {
        String[] wrong = {"", "9", "99", "99/", "99/9", "99/999", "99/99/", "9/", "/", "x", "99 99", "999/99/"};
        int[] at = {0, 1, 2, 3, 4, 5, 5, 1, 0, 0, 2, 6};
        for (int i = 0; i < wrong.length; i++) {
            Edge.refusedText("values", wrong[i], RentByTheWheel::values, -1 - at[i]);
        }
        RentByTheWheel x = four();
        Check.values(x, "9000/0900/0090/0009");
        Check.due("of four", x, x.allot(), 36, 0, 1, 2, 3);
        Check.values(x, "12/34");
        Check.due("of two: the others are gone", x, x.allot(), 5, 0, 1);
    }

    // ---- promise 33

    /** -2: no VALUES were told. */
    private static void noValues() {
        Edge.refused("allot", EdgesRentTest::withRow, RentByTheWheel::allot, -2);
        Edge.refused("rents(0)", EdgesRentTest::withRow, x -> x.rents(0), -2);
        Edge.refused("rents(48)", EdgesRentTest::withRow, x -> x.rents(48), -2);
        Check.due("of nobody", new RentByTheWheel().allot(), -2);
        Check.due("rents of nobody", new RentByTheWheel().rents(0), -2);
    }

    private static RentByTheWheel withRow() {
        RentByTheWheel x = four();
        x.thirst(3);
        return x;
    }

    /** Of as good ones the least row. */
    private static void leastRowOfStoreys() {
        String[] texts = {"00/00", "99/99", "01/01", "01/00", "10/00", "00/10", "12/23", "000/000/000", "001/001/001", "100/100/010", "0000/0000/0000/0000",
            "0001/0001/1000/1000", "9999/9999/9999/9999", "0100/1000/0000/0000", "0009/9000/0900/0090"};
        int[] most = {0, 18, 1, 1, 1, 1, 4, 0, 1, 2, 0, 2, 36, 2, 36};
        int[][] rows = {{0, 1}, {0, 1}, {0, 1}, {1, 0}, {0, 1}, {1, 0}, {0, 1}, {0, 1, 2}, {0, 1, 2}, {0, 2, 1}, {0, 1, 2, 3},
            {1, 3, 0, 2}, {0, 1, 2, 3}, {1, 0, 2, 3}, {3, 0, 1, 2}};
        for (int i = 0; i < texts.length; i++) {
            RentByTheWheel x = four();
            Check.values(x, texts[i]);
            long[] row = new long[rows[i].length];
            for (int j = 0; j < row.length; j++) {
                row[j] = rows[i][j];
            }
            Check.due("allot of " + texts[i], x, x.allot(), most[i], row);
        }
    }

    // ---- promise 34

    /** n (0 .. 48) in all: how many such rows; the ROW: the least (none without). */
    private static void rentsInAll() {
        RentByTheWheel x = four();
        Check.values(x, "0000/0000/0000/0000");
        for (int n = 0; n <= 48; n++) {
            if (n % 4 == 0) {
                Check.due("all alike: " + n, x, x.rents(n), 1, n / 4, n / 4, n / 4, n / 4);
            } else {
                Check.due("all alike: " + n, x, x.rents(n), 0);
            }
        }
        Check.values(x, "99/99");
        Check.due("two: 24", x, x.rents(24), 1, 12, 12);
        Check.due("two: 25", x, x.rents(25), 0);
        Check.due("two: 48", x, x.rents(48), 0);
        Check.due("two: 0", x, x.rents(0), 1, 0, 0);
    }

    /** RENTS 0 .. 12 of STOREYS. */
    private static void rents0To12() {
        RentByTheWheel x = four();
        Check.values(x, "90/09");
        // RENTS may differ by 9 at most
        Check.due("9: ten rows", x, x.rents(9), 10, 0, 9);
        Check.due("10: nine rows", x, x.rents(10), 9, 1, 9);
        Check.due("11: ten rows", x, x.rents(11), 10, 1, 10);
        Check.due("12: nine rows", x, x.rents(12), 9, 2, 10);
        Check.due("15: ten rows", x, x.rents(15), 10, 3, 12);
        Check.due("16: nine rows", x, x.rents(16), 9, 4, 12);
        Check.due("23: two rows", x, x.rents(23), 2, 11, 12);
        Check.due("24: one row", x, x.rents(24), 1, 12, 12);
        Check.values(x, "900/090/009");
        Check.due("three: 36", x, x.rents(36), 1, 12, 12, 12);
        Check.due("three: 37", x, x.rents(37), 0);
        Check.due("three: 35", x, x.rents(35), 3, 11, 12, 12);
        Check.due("three: 1", x, x.rents(1), 3, 0, 0, 1);
    }

    /** By which nobody would have more of another STOREY (VALUE less RENT): as much is not more. */
    private static void nobodyWouldHaveMore() {
        RentByTheWheel x = four();
        Check.values(x, "53/26");
        // a keeps STOREY 0 while r0 - r1 is 2 at most, b keeps 1 while r1 - r0 is 4 at most
        for (int n = 0; n <= 24; n++) {
            int rows = 0;
            int least = -1;
            for (int r = 12; r >= 0; r--) {
                int other = n - r;
                if (other >= 0 && other <= 12 && r - other <= 2 && other - r <= 4) {
                    rows++;
                    least = r;
                }
            }
            Check.due("rents(" + n + ")", x, x.rents(n), rows, least, n - least);
        }
        // STOREYS as allot() tells them: a has 1, b has 0
        Check.values(x, "35/62");
        Check.due("crosswise", x, x.rents(4), 4, 1, 3);
    }

    /** NONE: another n. */
    private static void rentsRefused() {
        for (int n : new int[] {-1, -2, 49, 50}) {
            Edge.refused("rents(" + n + ")", x -> x.rents(n), -1);
            Edge.refused("rents(" + n + ") without VALUES", EdgesRentTest::withRow, x -> x.rents(n), -1);
        }
        for (int far : Edge.FAR) {
            Edge.refused("rents(" + far + ")", x -> x.rents(far), -1);
        }
    }

    /** Questions change nothing. */
    private static void questions() {
        Edge.question("allot", x -> x.allot());
        Edge.question("rents", x -> x.rents(9));
        Edge.question("rents that can't be", x -> x.rents(48));
    }
}
