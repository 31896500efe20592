/** Promises 1 to 11. */
public final class HouseTest {
    public static void main(String[] args) {
        newObject();
        text();
        house();
        houseFaults();
        rule();
        ruleFaults();
        ruleLimits();
        lodger();
        lifts();
        set();
        brake();
        sheet();
        Check.end();
    }

    private static void newObject() {
        RentByTheWheel x = new RentByTheWheel();
        Check.due("NONE", RentByTheWheel.NONE, -1);
        int[] due = {0, 0, 0, 0, 0, 50, 2, 0, 0, 0, 0, 0, 0};
        for (int what = 0; what < due.length; what++) {
            Check.due("new: count(" + what + ")", x.count(what), due[what]);
        }
        Check.dueNoSuch("new: row(0)", () -> x.row(0));
        Check.dueNoSuch("new: debt(0)", () -> x.debt(0));
        Check.dueNoSuch("new: lodger(0, 0)", () -> x.lodger(0, 0));
    }

    private static void text() {
        RentByTheWheel x = new RentByTheWheel();
        for (int i = 1; i <= 20; i++) {
            Check.due("sign", x.sign(0x2e2e2e2e), 4 * i);
        }
        Check.due("sign: 81 .. 84", x.sign(0), -1);
        Check.due("its length", x.count(12), 80);
        Check.due("end(81)", x.end(81), false);
        Check.due("end(-1)", x.end(-1), false);
        Check.due("end(80)", x.end(80), true);
        Check.due("end(77)", x.end(77), true);
        Check.due("end(78)", x.end(78), false);
        Check.due("sign: 78 .. 81", x.sign(0), -1);
        Check.due("its length then", x.count(12), 77);
        Check.due("end(76)", x.end(76), true);
        Check.due("sign: 77 .. 80", x.sign(-1), 80);
        Check.due("end(0)", x.end(0), true);
        // the highest byte comes first
        x.sign('0' << 24 | '3' << 16 | '4' << 8 | ':');
        x.sign('7' << 24);
        x.end(5);
        Check.due("house 034:7", x.house(), 1);
        Check.due("STOREY", x.lodger(0, 0), 0);
        Check.due("PACE", x.lodger(0, 1), 3);
        Check.due("WEIGHT", x.lodger(0, 2), 4);
        Check.due("WANT", x.lodger(0, 3), 7);
        Check.due("the text is read", x.count(12), 0);
    }

    private static void house() {
        RentByTheWheel x = new RentByTheWheel();
        Check.due("two lines", Check.house(x, "034:2;599:123456789012"), 2);
        Check.due("a line more", Check.house(x, "011:0"), 1);
        Check.due("an empty one", Check.house(x, ""), 0);
        Check.due("LODGERS", x.count(0), 3);
        Check.due("STOREY of b", x.lodger(1, 0), 5);
        Check.due("WANTS of b", x.lodger(1, 6), 48);
        Check.due("WANTS of c", x.lodger(2, 6), 0);
        Check.due("two, with one that can't", Check.house(x, "011:0;011:"), -11);
        Check.due("nothing of it came", x.count(0), 3);
        Check.due("three more", Check.house(x, "011:0;011:0;311:0"), 3);
        Check.due("no room", Check.house(x, "011:0"), -1);
        Check.due("no room, another sign", Check.house(x, "z"), -1);
        Check.due("empty, with no room", Check.house(x, ""), 0);
        Check.due("LODGERS then", x.count(0), 6);

        RentByTheWheel y = Check.with("011:0;011:0;011:0;011:0;011:0");
        Check.due("room for one alone", Check.house(y, "011:0;011:0"), -7);
        Check.due("room for one, a ; behind", Check.house(y, "011:0;"), -7);
        Check.due("five", y.count(0), 5);
    }

    private static void houseFaults() {
        RentByTheWheel x = new RentByTheWheel();
        String[] wrong = {"6", "x", " ", ";", "0x", "00", "010", "01:", "011;", "011:;", "011:a", "011:1:", "011:1 ",
            "011:1;;", "011:1;6", "011:1234567890123", "011:123456789012:", "011:1;010", (char) 255 + "", "/", ":"};
        int[] at = {0, 0, 0, 0, 1, 1, 2, 2, 3, 4, 4, 5, 5, 6, 6, 16, 16, 8, 0, 0, 0};
        for (int i = 0; i < wrong.length; i++) {
            Check.due("house " + wrong[i], Check.house(x, wrong[i]), -1 - at[i]);
            Check.due("it is emptied", x.count(12), 0);
        }
        String line = "011:123456789012;";
        for (int n = 1; n < 5; n++) {
            Check.due("house ends at " + n, Check.house(x, line.substring(0, n)), n < 5 ? -1 - n : 1);
        }
        String full = line + line + line + line;
        Check.due("ends behind ;", Check.house(x, full), -69);
        Check.due("76 signs and more: digits go on", Check.house(x, full + "011:12345"), -77);
        Check.due("76 signs and more: a wrong one", Check.house(x, full + "011:1234x"), -77);
        Check.due("76 signs and more: wrong ahead of it", Check.house(x, full + "011:12x45"), -75);
        Check.due("76 signs and more: a line begun", Check.house(x, line + line + line + "011:1234567890;011:1;01"), -75);
        Check.due("nobody came", x.count(0), 0);
        Check.due("76 signs", Check.house(x, full + "011:1234"), 5);
        Check.due("five came", x.count(0), 5);
        Check.due("WANTS of the last one", x.lodger(4, 6), 30);
    }

    private static void rule() {
        RentByTheWheel x = Check.with("277:1;539:1");
        Check.due("no rule: 7*8/4", x.lifts(0, -1), 14);
        dueRule(x, "1+2*3", 7);
        dueRule(x, "9-4-3", 2);
        dueRule(x, "99/5/2*3", 27);
        dueRule(x, "(1+2)*3", 9);
        dueRule(x, "2<3", 1);
        dueRule(x, "3<2", 0);
        dueRule(x, "3<3", 0);
        dueRule(x, "3>2", 1);
        dueRule(x, "3>3", 0);
        dueRule(x, "3=3", 1);
        dueRule(x, "3=4", 0);
        dueRule(x, "1+1=2", 1);
        dueRule(x, "5*(1+1=2)+(3<2)", 5);
        dueRule(x, "(1<2)<3", 1);
        dueRule(x, "-5+7", 2);
        dueRule(x, "7--5", 12);
        dueRule(x, "7---5", 2);
        dueRule(x, "0-2*-3", 6);
        dueRule(x, "-2*-3", 6);
        dueRule(x, "--4", 4);
        dueRule(x, "---4", 0);
        dueRule(x, "-(1-4)", 3);
        dueRule(x, "9/0", 0);
        dueRule(x, "5+9/(1-1)", 5);
        dueRule(x, "10+-7/2", 7);
        dueRule(x, "10+7/-2", 7);
        dueRule(x, "999", 99);
        dueRule(x, "100", 99);
        dueRule(x, "099", 99);
        dueRule(x, "7-8", 0);
        dueRule(x, "((((8))))", 8);
        dueRule(x, "(1)+(2)+((3))", 6);
    }

    private static void dueRule(RentByTheWheel x, String rule, int pails) {
        Check.due("rule " + rule, Check.rule(x, rule), 0);
        Check.due("lifts by " + rule, x.lifts(0, -1), pails);
    }

    private static void ruleFaults() {
        RentByTheWheel x = Check.with("277:1;539:1");
        Check.due("rule 5", Check.rule(x, "5"), 0);
        String[] wrong = {"z", "+1", "*", ")", "1)", "(1", "()", "1 ", "1+", "1++2", "1<2<3", "1<2=3", "1=", "(1<2>3)",
            "1234", "tt", "t1", "1t", "(((((1", "((((1))))(", "-", "1-", "1*-", "T", "1<(2", "<", "(1<2)=(3>4)>1", "00000"};
        int[] at = {0, 0, 0, 0, 1, 2, 1, 1, 2, 2, 3, 3, 2, 4, 3, 1, 1, 1, 4, 9, 1, 2, 3, 0, 4, 0, 11, 3};
        for (int i = 0; i < wrong.length; i++) {
            Check.due("rule " + wrong[i], Check.rule(x, wrong[i]), -1 - at[i]);
            Check.due("it is emptied", x.count(12), 0);
            Check.due("the rule stays", x.lifts(0, -1), 5);
        }
        Check.due("an empty rule", Check.rule(x, ""), 0);
        Check.due("is none", x.lifts(0, -1), 14);
    }

    private static void ruleLimits() {
        RentByTheWheel x = Check.with("277:1;539:1");
        String nine = "1+1+1+1+1+1+1+1+1+";
        String forty = nine + nine + "1+10";
        Check.due("40 signs", Check.rule(x, forty), 0);
        Check.due("lifts by 40 signs", x.lifts(0, -1), 29);
        Check.due("41 signs", Check.rule(x, forty + "1"), -41);
        Check.due("41 signs, a wrong one", Check.rule(x, forty + "x"), -41);
        Check.due("41 signs, one wrong ahead", Check.rule(x, nine + nine + "1+1x1"), -40);
        Check.due("40 signs that end too early", Check.rule(x, nine + nine + "1+1+"), -41);
        Check.due("44 signs, ( open", Check.rule(x, "(" + nine + nine + "1+1+1)"), -41);
        Check.due("the rule stays", x.lifts(0, -1), 29);
        Check.due("ints go round", Check.rule(x, "999*999*999*999/999/999/999"), 0);
        Check.due("lifts then", x.lifts(0, -1), Math.max(0, Math.min(99, 999 * 999 * 999 * 999 / 999 / 999 / 999)));
        // the least int by -1 is the least int
        Check.due("the least int", Check.rule(x, "(-(512*512*512*16)/-1<0)*9+1"), 0);
        Check.due("lifts by it", x.lifts(0, -1), 10);
        Check.due("40 times -", Check.rule(x, "---------------------------------------5"), 0);
        Check.due("lifts by 39 of them", x.lifts(0, -1), 0);
        Check.due("38 times -", Check.rule(x, "--------------------------------------5"), 0);
        Check.due("lifts by 38 of them", x.lifts(0, -1), 5);
    }

    private static void lodger() {
        RentByTheWheel x = Check.with(Check.THREE);
        x.brake(1, 1);
        x.quarter(-1, -1);
        int[] due = {2, 5, 8, 3, 1, 1, 24};
        for (int what = 0; what < due.length; what++) {
            Check.due("lodger(1, " + what + ")", x.lodger(1, what), due[what]);
        }
        Check.dueNoSuch("lodger(0, 7)", () -> x.lodger(0, 7));
        Check.dueNoSuch("lodger(0, -1)", () -> x.lodger(0, -1));
        Check.dueNoSuch("lodger(3, 0)", () -> x.lodger(3, 0));
        Check.dueNoSuch("lodger(-1, 0)", () -> x.lodger(-1, 0));
        Check.due("debt(2)", x.debt(2), 0);
        Check.dueNoSuch("debt(3)", () -> x.debt(3));
        Check.dueNoSuch("debt(-1)", () -> x.debt(-1));
        // five digits: the row begins anew with each DAY, not behind its last digit
        RentByTheWheel y = Check.with("011:12345");
        int[] wants = {1, 2, 3, 4, 5, 1, 2, 3, 4, 5, 1, 2, 1, 2};
        for (int q = 0; q < wants.length; q++) {
            Check.due("WANT of QUARTER " + q, y.lodger(0, 3), wants[q]);
            y.quarter(-1, -1);
        }
        Check.due("WANTS of a DAY", y.lodger(0, 6), 33);
    }

    private static void lifts() {
        RentByTheWheel x = Check.with("277:1;539:1");
        Check.due("alone", x, x.lifts(0, -1), 14, 7, 0);
        Check.due("the other alone", x, x.lifts(1, -1), 7, 3, 0);
        Check.due("two", x, x.lifts(0, 1), 6, 3, 7);
        Check.due("two, the other way", x, x.lifts(1, 0), 7, 3, 6);
        int[][] wrong = {{-1, -1}, {-1, 0}, {0, 0}, {2, -1}, {0, 2}, {0, -2}, {-2, 0}};
        for (int[] w : wrong) {
            Check.due("lifts(" + w[0] + ", " + w[1] + ")", x, x.lifts(w[0], w[1]), -1, 3, 6);
        }
        x.set(2, 41);
        x.quarter(-1, -1);
        String[] names = {"t", "p", "w", "l", "n", "q", "y"};
        int[] first = {3, 7, 7, 39, 2, 1, 2};
        int[] second = {3, 3, 9, 39, 2, 1, 5};
        int[] alone = {7, 7, 7, 39, 1, 1, 2};
        for (int i = 0; i < names.length; i++) {
            Check.rule(x, names[i]);
            Check.due("the first by " + names[i], x, x.lifts(0, 1), first[i], 3, second[i]);
            Check.due("alone by " + names[i], x, x.lifts(0, -1), alone[i], 7, 0);
        }
        x.brake(0, 1);
        Check.due("it brakes", x, x.lifts(0, 1), 0, 3, 5);
        Check.due("it brakes alone", x, x.lifts(0, -1), 0, 7, 0);
        Check.rule(x, "q");
        for (int i = 0; i < 11; i++) {
            x.quarter(-1, -1);
        }
        Check.due("QUARTER of the next DAY", x.lifts(1, -1), 0);
    }

    private static void set() {
        RentByTheWheel x = new RentByTheWheel();
        Check.due("ROOM", x.set(0, 999), 50);
        Check.due("LEVEL", x.set(2, 999), 0);
        Check.due("DUE", x.set(1, 9), 2);
        int[][] wrong = {{0, 0}, {0, 1000}, {0, -5}, {1, -1}, {1, 10}, {2, -1}, {2, 1000}, {3, 1}, {-1, 1}};
        for (int[] w : wrong) {
            Check.due("set(" + w[0] + ", " + w[1] + ")", x.set(w[0], w[1]), -1);
        }
        Check.due("ROOM 20", x.set(0, 20), 999);
        Check.due("what is more runs over", x.count(4), 20);
        Check.due("LEVEL 21", x.set(2, 21), -1);
        Check.due("ROOM 30", x.set(0, 30), 20);
        Check.due("LEVEL stays", x.count(4), 20);
        Check.due("ROOM 1", x.set(0, 1), 30);
        Check.due("LEVEL 0", x.set(2, 0), 1);
        Check.due("DUE 0", x.set(1, 0), 9);
        Check.due("count(5)", x.count(5), 1);
        Check.due("count(6)", x.count(6), 0);
    }

    private static void brake() {
        RentByTheWheel x = Check.with(Check.THREE);
        Check.due("brakes", x.brake(1, 1), 0);
        Check.due("once more", x.brake(1, 1), 1);
        Check.due("another does not", x.lodger(0, 5), 0);
        Check.due("brake(1, 2)", x.brake(1, 2), -1);
        Check.due("brake(1, -1)", x.brake(1, -1), -1);
        Check.due("brake(3, 1)", x.brake(3, 1), -1);
        Check.due("brake(-1, 1)", x.brake(-1, 1), -1);
        Check.due("it still does", x.lodger(1, 5), 1);
        Check.due("quarter", x, x.quarter(0, 1), 0, 3, 0, 0);
        Check.due("DEBT is less all the same", x.debt(1), -3);
        Check.due("not from now on", x.brake(1, 0), 1);
        Check.due("it does not", x.lodger(1, 5), 0);
        Check.due("lifts", x.lifts(1, -1), 11);
    }

    private static void sheet() {
        RentByTheWheel x = Check.with(Check.THREE);
        duePaces(x, x.sheet(0, 3, 1, 2), 9, 1, 3, 5);
        duePaces(x, x.sheet(0, 3, 255, 2), 5, 1, 1, 3);
        duePaces(x, x.sheet(0, 3, 127, 1), 11, 9, 1, 1);
        duePaces(x, x.sheet(1, 3, 127, 1), 27, 9, 9, 9);
        duePaces(x, x.sheet(1, 3, 32767, 1), 11, 9, 1, 1);
        duePaces(x, x.sheet(2, 3, 32767, 1), 27, 9, 9, 9);
        duePaces(x, x.sheet(2, 3, Integer.MAX_VALUE, 1), 11, 9, 1, 1);
        duePaces(x, x.sheet(0, 2, 7, -3), 12, 7, 4, 1);
        duePaces(x, x.sheet(2, 6, 2, 2), 12, 2, 4, 6);
        Check.due("n below 0", x.sheet(1, -1, 5, 5), -2);
        Check.due("another kind", x.sheet(4, 2, 5, 5), -1);
        Check.due("kind -1", x.sheet(-1, 2, 5, 5), -1);
        Check.due("another kind first", x.sheet(4, -1, 5, 5), -1);
        Check.due("n above 6", x.sheet(0, 7, 5, 5), -1);
        Check.due("n above 6 of a missing one", x.sheet(3, 7, 5, 5), -1);
        duePaces(x, 12, 12, 2, 4, 6);
        duePaces(x, x.sheet(2, 0, 5, 5), 3, 1, 1, 1);
        x.sheet(2, 3, 2, 2);
        duePaces(x, x.sheet(3, 2, 5, 5), -3, 1, 1, 1);
        x.sheet(2, 3, 2, 2);
        duePaces(x, x.sheet(3, -4, 5, 5), -3, 1, 1, 1);
        RentByTheWheel y = new RentByTheWheel();
        Check.due("of nobody", y.sheet(0, 6, 5, 0), 0);
        Check.due("missing, of nobody", y.sheet(3, 0, 0, 0), -3);
    }

    private static void duePaces(RentByTheWheel x, int got, int want, int a, int b, int c) {
        Check.due("sheet", got, want);
        Check.due("PACE of a", x.lodger(0, 1), a);
        Check.due("PACE of b", x.lodger(1, 1), b);
        Check.due("PACE of c", x.lodger(2, 1), c);
    }
}
