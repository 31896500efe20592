/** Boundary cases of promises 1 to 11: a test for each sentence that names one. */
public final class EdgesHouseTest {
    private static final String FIRST = Edge.DIGITS + "tpwlnqy(-";
    private static final String JOINS = "+-*/";
    private static final String COMPARES = "<>=";
    private static final String LINE = "011:123456789012;";
    private static final int[] WRONG_LODGERS = {-1, -2, 3, 6, 31, 32, 64};

    public static void main(String[] args) {
        nobodyIsThere();
        moreThan80();
        highestByteFirst();
        firstSignsAlone();
        emptyHouse();
        signsOfHouse();
        houseEndsTooEarly();
        houseOf76();
        houseOfMoreThan76();
        noRoomForLine();
        nothingComes();
        emptyRule();
        signsOfRule();
        ruleEndsTooEarly();
        ruleOf40();
        ruleOfMoreThan40();
        refusedRule();
        numbersOfThreeDigits();
        fourInOneAnother();
        twoCompared();
        fromTheLeft();
        dividedBy0();
        anyManyMinuses();
        whatIsToldOfLodgers();
        debtOfNoneSuch();
        liftsWithOther();
        liftsRefused();
        setRoom();
        setDue();
        setLevel();
        setRefused();
        brakes();
        brakeRefused();
        sheetOfBytes();
        sheetOfShorts();
        sheetOfInts();
        sheetShortAndLong();
        sheetBelow0();
        sheetMissing();
        sheetRefused();
        Check.end();
    }

    // ---- promise 1

    /** Nobody; LEVEL 0. */
    private static void nobodyIsThere() {
        RentByTheWheel x = new RentByTheWheel();
        for (int what = 0; what <= 12; what++) {
            Check.due("count(" + what + ")", x.count(what), what == 5 ? 50 : what == 6 ? 2 : 0);
        }
        Check.dueNoSuch("lodger(0, 0)", () -> x.lodger(0, 0));
        Check.dueNoSuch("debt(0)", () -> x.debt(0));
        Check.dueNoSuch("row(0)", () -> x.row(0));
        Check.due("lifts(0, -1)", x.lifts(0, -1), -1);
        Check.due("brake(0, 0)", x.brake(0, 0), -1);
        Check.due("quarter(0, -1)", x.quarter(0, -1), -2);
        Check.due("undo()", x.undo(), -1);
        Check.due("fewest(1, 1)", x.fewest(1, 1), -1);
        Check.due("strongest(1)", x.strongest(1), -1);
        Check.due("ways(0)", x.ways(0), -1);
        Check.due("braked(1, 0)", x.braked(1, 0), -1);
        Check.due("again(0)", x.again(0), false);
        Check.due("again(1)", x.again(1), false);
        Check.due("forget()", x.forget(), 0);
    }

    // ---- promise 2

    /** Refused: there would be more than 80. */
    private static void moreThan80() {
        for (int had = 72; had <= 80; had++) {
            RentByTheWheel x = new RentByTheWheel();
            Check.text(x, "034:5;" + Edge.times("z", had - 6));
            Check.due("THE TEXT has " + had, x.count(12), had);
            Check.due("four more behind " + had, x.sign(0x2e2e2e2e), had + 4 > 80 ? -1 : had + 4);
            Check.due("THE TEXT then", x.count(12), had + 4 > 80 ? had : had + 4);
            Check.due("its first signs", x.end(5), true);
            Check.due("are as they were", x.house(), 1);
            Check.due("WANT", x.lodger(0, 3), 5);
        }
        Edge.refused("sign", EdgesHouseTest::with77, x -> x.sign('a'), -1);
        RentByTheWheel y = new RentByTheWheel();
        Check.due("the first four", y.sign(0), 4);
    }

    private static RentByTheWheel with77() {
        RentByTheWheel x = Edge.busy();
        Check.text(x, Edge.times("a", 77));
        return x;
    }

    /** Four signs come behind THE TEXT, of v the highest byte first. */
    private static void highestByteFirst() {
        RentByTheWheel x = new RentByTheWheel();
        x.sign('5' << 24 | '4' << 16 | '3' << 8 | ':');
        x.sign('2' << 24 | '1' << 16 | '9' << 8 | '8');
        Check.due("house", x.house(), 1);
        int[] due = {5, 4, 3, 2};
        for (int what = 0; what < due.length; what++) {
            Check.due("lodger(0, " + what + ")", x.lodger(0, what), due[what]);
        }
        Check.due("WANTS 2198", x.lodger(0, 6), 60);
        // a sign has eight bits, the highest too
        int[] wrongAt = {0xae2e2e2e, 0x2eae2e2e, 0x2e2eae2e, 0x2e2e2eae};
        for (int p = 0; p < 4; p++) {
            x.sign(wrongAt[p]);
            Check.due("sign 174 at " + p, x.day(), -1 - p);
        }
        x.sign(-1);
        Check.due("four signs 255", x.count(12), 4);
        x.sign(0);
        Check.due("four signs 0", x.count(12), 8);
    }

    // ---- promise 3

    /** THE TEXT has its first n signs alone: true; false if it has not so many, or n is below 0. */
    private static void firstSignsAlone() {
        RentByTheWheel x = new RentByTheWheel();
        Check.due("end(0) of an empty one", x.end(0), true);
        Check.due("end(1) of an empty one", x.end(1), false);
        Check.due("end(-1) of an empty one", x.end(-1), false);
        for (int i = 0; i < 20; i++) {
            x.sign(0);
        }
        Check.due("end(81)", x.end(81), false);
        Check.due("end(80)", x.end(80), true);
        Check.due("it has 80", x.count(12), 80);
        Check.due("end(79)", x.end(79), true);
        Check.due("end(80) of 79", x.end(80), false);
        Check.due("it has 79", x.count(12), 79);
        Check.due("end(1)", x.end(1), true);
        Check.due("end(0)", x.end(0), true);
        Check.due("it has none", x.count(12), 0);
        for (int n : new int[] {-1, -2, 7, 8, 81}) {
            Edge.refused("end(" + n + ")", y -> y.end(n) ? 1 : 0, 0);
        }
        for (int n : Edge.FAR) {
            Edge.refused("end(" + n + ")", y -> y.end(n) ? 1 : 0, 0);
        }
    }

    // ---- promise 4

    /** An empty one: nothing. */
    private static void emptyHouse() {
        Edge.refusedText("an empty house", "", RentByTheWheel::house, 0);
        RentByTheWheel x = new RentByTheWheel();
        Check.due("an empty house at first", x.house(), 0);
        Check.due("LODGERS", x.count(0), 0);
        RentByTheWheel y = Check.with(Edge.times("011:0;", 5) + "011:0");
        Check.due("an empty house, and no room", y.house(), 0);
    }

    /** -1 - p: the sign at p can't stand there. */
    private static void signsOfHouse() {
        dueHouse("", "012345");
        dueHouse("0", "123456789");
        dueHouse("5", "123456789");
        dueHouse("01", "123456789");
        dueHouse("099", ":");
        dueHouse("011:", Edge.DIGITS);
        dueHouse("011:1", Edge.DIGITS + ";");
        dueHouse("011:12345678901", Edge.DIGITS + ";");
        dueHouse("011:123456789012", ";");
        dueHouse("011:1;", "012345");
        dueHouse(LINE, "012345");
        dueHouse("011:1;0", "123456789");
        dueHouse("011:1;011:", Edge.DIGITS);
        dueHouse(LINE + "011:123456789012", ";");
    }

    private static void dueHouse(String text, String signs) {
        Edge.stand("house", text, signs, RentByTheWheel::new, RentByTheWheel::house);
    }

    /** Its end, if it ends too early. */
    private static void houseEndsTooEarly() {
        String two = "011:1;599:0";
        for (int n = 1; n <= two.length(); n++) {
            RentByTheWheel x = new RentByTheWheel();
            int lines = n == 5 ? 1 : n == two.length() ? 2 : -1 - n;
            Check.due("house ends at " + n, Check.house(x, two.substring(0, n)), lines);
            Check.due("LODGERS then", x.count(0), Math.max(0, lines));
        }
    }

    /** A text of at most 76 signs. */
    private static void houseOf76() {
        String full = Edge.times(LINE, 4);
        Check.due("75 signs", Check.house(new RentByTheWheel(), full + "011:123"), 5);
        Check.due("76 signs", Check.house(new RentByTheWheel(), full + "011:1234"), 5);
        Check.due("76 signs that end too early behind ;", Check.house(new RentByTheWheel(), full + "011:123;"), -77);
        Check.due("76 signs that end too early in a line", Check.house(new RentByTheWheel(), full + "011:1;01"), -77);
        Check.due("76 signs, the last one wrong", Check.house(new RentByTheWheel(), full + "011:123x"), -76);
    }

    /** 76, if it has more and the first 76 could go on or end. */
    private static void houseOfMoreThan76() {
        String full = Edge.times(LINE, 4);
        String[] more = {"5", ";", "x", "56", "5;0", "5678", ":::;"};
        for (String behind : more) {
            Edge.refusedText("could end", RentByTheWheel::new, full + "011:1234" + behind, RentByTheWheel::house, -77);
            Edge.refusedText("could go on with a line", RentByTheWheel::new, full + "011:123;" + behind, RentByTheWheel::house, -77);
            Edge.refusedText("could go on in a line", RentByTheWheel::new, full + "011:1;01" + behind, RentByTheWheel::house, -77);
            Edge.refusedText("could not", RentByTheWheel::new, full + "011:123x" + behind, RentByTheWheel::house, -76);
            Edge.refusedText("could not at 74", RentByTheWheel::new, full + "011:12::" + behind, RentByTheWheel::house, -75);
        }
    }

    /** The first sign of a LINE for which there is no room. */
    private static void noRoomForLine() {
        for (int had = 0; had <= 6; had++) {
            for (int more = 1; more <= 8; more++) {
                RentByTheWheel x = new RentByTheWheel();
                Check.house(x, had == 0 ? "" : Edge.times("011:0;", had - 1) + "011:0");
                String text = Edge.times("211:0;", more - 1) + "211:0";
                boolean room = had + more <= 6;
                Check.due(more + " to " + had, Check.house(x, text), room ? more : -1 - 6 * (6 - had));
                Check.due(more + " to " + had + ": LODGERS", x.count(0), room ? had + more : had);
            }
        }
        RentByTheWheel y = Check.with(Edge.times("011:0;", 4) + "011:0");
        Check.due("what is wrong ahead of it comes first", Check.house(y, "01x:0;011:0"), -3);
        Check.due("what is wrong behind it does not", Check.house(y, "011:0;011:x"), -7);
        Check.due("nor in its first sign", Check.house(y, "011:0;x"), -7);
        Check.due("it ends where the line would begin", Check.house(y, "011:0;"), -7);
        Check.due("of more than 76 signs", Check.house(y, Edge.times(LINE, 4) + "011:12345678"), -18);
        Check.due("one more", Check.house(y, "011:0"), 1);
        Check.due("full, of more than 76 signs", Check.house(y, Edge.times(LINE, 4) + "011:12345678"), -1);
        Check.due("full, another sign", Check.house(y, "x"), -1);
    }

    /** Nothing of it comes, if a LINE can't. */
    private static void nothingComes() {
        String[] wrong = {"011:1;611:1", "011:1;", "011:1;011:", "011:1;011:1;01", "011:1x", "011:1;011:1;011:1;011:1", "011:1;001:1"};
        int[] at = {6, 6, 10, 14, 5, 18, 7};
        for (int i = 0; i < wrong.length; i++) {
            Edge.refusedText("house", wrong[i], RentByTheWheel::house, -1 - at[i]);
        }
        RentByTheWheel x = Edge.busy();
        Check.due("three, for whom there is room", Check.house(x, "011:1;011:1;011:1"), 3);
        Check.due("LODGERS", x.count(0), 6);
    }

    // ---- promise 5

    /** An empty one: none. */
    private static void emptyRule() {
        RentByTheWheel x = Check.with("099:0");
        Check.due("an empty rule at first", Check.rule(x, ""), 0);
        Check.due("is t*(w+1)/4", x.lifts(0, -1), 22);
        Check.rule(x, "5");
        Check.due("lifts by 5", x.lifts(0, -1), 5);
        Check.due("an empty rule", Check.rule(x, ""), 0);
        Check.due("is t*(w+1)/4 again", x.lifts(0, -1), 22);
    }

    /** -1 - p: as house(): the sign at p can't stand there. */
    private static void signsOfRule() {
        String behind = JOINS + COMPARES;
        String[] heads = {"", "-", "--", "t+", "t-", "t*", "t/", "t<", "t>", "t=", "(", "-(", "(((", "t+(", "t<-", "1-", "t*-", "(t)=", "(t<t)<"};
        for (String head : heads) {
            dueRule(head, FIRST);
        }
        for (String name : "t p w l n q y".split(" ")) {
            dueRule(name, behind);
        }
        dueRule("((((", Edge.DIGITS + "tpwlnqy-");
        dueRule("((((t))))+((((", Edge.DIGITS + "tpwlnqy-");
        dueRule("(((t))+(", FIRST);
        dueRule("0", Edge.DIGITS + behind);
        dueRule("99", Edge.DIGITS + behind);
        dueRule("123", behind);
        dueRule("t+000", behind);
        dueRule("(t", behind + ")");
        dueRule("(12", Edge.DIGITS + behind + ")");
        dueRule("(123", behind + ")");
        dueRule("(t)", behind);
        dueRule("((t)", behind + ")");
        dueRule("t<t", JOINS);
        dueRule("t>12", JOINS + Edge.DIGITS);
        dueRule("t=t+t", JOINS);
        dueRule("t=(t)", JOINS);
        dueRule("(t<t", JOINS + ")");
        dueRule("(t<t)", behind);
        dueRule("t<(t<t)", JOINS);
        dueRule("t<(t", behind + ")");
        dueRule("t*t", behind);
        dueRule("t+t", behind);
        dueRule("-t", behind);
    }

    private static void dueRule(String text, String signs) {
        Edge.stand("rule", text, signs, RentByTheWheel::new, RentByTheWheel::rule);
    }

    /** Its end, if it ends too early. */
    private static void ruleEndsTooEarly() {
        String[] early = {"-", "--", "(", "((((", "t+", "t-", "t*", "t/", "t<", "t=-", "(t", "(t)*", "((t)", "(t<12", "t<(t"};
        for (String text : early) {
            Edge.refusedText("rule", text, RentByTheWheel::rule, -1 - text.length());
        }
    }

    /** A text of at most 40 signs. */
    private static void ruleOf40() {
        RentByTheWheel x = Check.with("011:0");
        Check.due("39 signs", Check.rule(x, Edge.times("1+", 19) + "1"), 0);
        Check.due("lifts by 39 signs", x.lifts(0, -1), 20);
        Check.due("40 signs", Check.rule(x, Edge.times("1+", 19) + "11"), 0);
        Check.due("lifts by 40 signs", x.lifts(0, -1), 30);
        Check.due("40 signs that end too early", Check.rule(x, Edge.times("1+", 20)), -41);
        Check.due("40 signs, the last one wrong", Check.rule(x, Edge.times("1+", 19) + "1x"), -40);
        Check.due("40 signs, one ( open", Check.rule(x, "(" + Edge.times("1+", 19) + "1"), -41);
        Check.due("40 signs of -", Check.rule(x, Edge.times("-", 40)), -41);
        Check.due("the rule stays", x.lifts(0, -1), 30);
        Check.due("39 signs of -, and one thing", Check.rule(x, Edge.times("-", 39) + "t"), 0);
        Check.due("lifts by that", x.lifts(0, -1), 0);
        Check.due("40 signs, each for itself", Check.rule(x, "-" + Edge.times("1+", 19) + "1"), 0);
        Check.due("lifts by each of them", x.lifts(0, -1), 18);
        Check.due("16 numbers that wait for one another", Check.rule(x, Edge.times("2<1+3*(", 4) + "2<1+3*7))))"), 0);
        Check.due("lifts by these", x.lifts(0, -1), 1);
    }

    /** 40, if it has more and the first 40 could go on or end. */
    private static void ruleOfMoreThan40() {
        String[] more = {"1", "+", "x", "+1", ")", "+1+1", Edge.times("+1", 20)};
        for (String behind : more) {
            Edge.refusedText("could end", Edge.times("1+", 19) + "11" + behind, RentByTheWheel::rule, -41);
            Edge.refusedText("three digits", Edge.times("1+", 18) + "-111" + behind, RentByTheWheel::rule, -41);
            Edge.refusedText("could go on", Edge.times("1+", 20) + behind, RentByTheWheel::rule, -41);
            Edge.refusedText("could go on, one ( open", "(" + Edge.times("1+", 19) + "1" + behind, RentByTheWheel::rule, -41);
            Edge.refusedText("could go on, - alone", Edge.times("-", 40) + behind, RentByTheWheel::rule, -41);
            Edge.refusedText("could not", Edge.times("1+", 19) + "1)" + behind, RentByTheWheel::rule, -40);
            Edge.refusedText("could not at 38", Edge.times("1+", 19) + ")1" + behind, RentByTheWheel::rule, -39);
        }
    }

    /** A refused rule leaves THE RULE as it was. */
    private static void refusedRule() {
        String[] wrong = {"z", "T", "7)", "7+z", "1<2<3", "1234", "tt", "(((((7", "7 ", "+7", "7+(", "()"};
        int[] at = {0, 0, 1, 2, 3, 3, 1, 4, 1, 0, 3, 1};
        for (int i = 0; i < wrong.length; i++) {
            Edge.refusedText("rule", wrong[i], RentByTheWheel::rule, -1 - at[i]);
        }
    }

    private static void dueLift(String rule, int pails) {
        RentByTheWheel x = Check.with("011:0");
        Check.due("rule " + rule, Check.rule(x, rule), 0);
        Check.due("lifts by " + rule, x.lifts(0, -1), pails);
    }

    /** A NUMBER of 1 to 3 digits. */
    private static void numbersOfThreeDigits() {
        dueLift("0", 0);
        dueLift("9", 9);
        dueLift("10", 10);
        dueLift("099", 99);
        dueLift("001", 1);
        dueLift("999-900", 99);
        dueLift("100-1", 99);
        dueFault("999=1000", 7);
        dueFault("0000", 3);
    }

    private static void dueFault(String rule, int at) {
        Check.due("rule " + rule, Check.rule(new RentByTheWheel(), rule), -1 - at);
    }

    /** At most 4 in one another. */
    private static void fourInOneAnother() {
        dueLift("(7)", 7);
        dueLift("((((7))))", 7);
        dueLift("((((7))))+((((8))))", 15);
        dueLift("(((7)+(8))*((1)))", 15);
        dueFault("(((((7)))))", 4);
        dueLift("((((7)+(8))))", 15);
        dueFault("((((7+(8)))))", 6);
        dueFault("1+((((1+(", 8);
    }

    /** < > = bind least (two; 1 or 0; not one behind the other). */
    private static void twoCompared() {
        String[] ones = {"1<2", "2>1", "1=1", "1+1<3", "3>1+1", "2*3=7-1", "-1<0", "(1<2)=1", "(1>2)<(2>1)", "(0<1)=(1>0)"};
        for (String rule : ones) {
            dueLift(rule, 1);
        }
        String[] zeros = {"2<2", "3<2", "2>2", "2>3", "1=2", "1<1+0", "(1<2)=2", "0-1>0", "-1>0-1", "5=4"};
        for (String rule : zeros) {
            dueLift(rule, 0);
        }
        dueLift("7*(2>1)+(1>2)", 7);
        dueLift("7+(2<1)", 7);
        dueLift("7+(1>2)", 7);
        dueLift("7+(1=2)", 7);
        dueFault("1<2<3", 3);
        dueFault("1=1=1", 3);
        dueFault("(1<2>1)", 4);
        dueLift("1<(2<3)", 0);
        // as ints: what goes round is below 0
        dueLift("999*999*999*3<0", 1);
    }

    /** Then + - (from the left), then * / (from the left). */
    private static void fromTheLeft() {
        dueLift("10-4-3", 3);
        dueLift("10-4+3", 9);
        dueLift("10-(4+3)", 3);
        dueLift("100/5/2", 10);
        dueLift("7/2*2", 6);
        dueLift("2*7/2", 7);
        dueLift("12/2*3", 18);
        dueLift("1+2*3-4/2", 5);
        dueLift("2*3+4*5", 26);
    }

    /** By 0: 0; cut to 0. */
    private static void dividedBy0() {
        dueLift("7/0", 0);
        dueLift("0/0", 0);
        dueLift("5+7/0", 5);
        dueLift("5+7/(3-3)*9", 5);
        dueLift("5+7/l", 5);
        dueLift("7/2", 3);
        dueLift("10+-7/2", 7);
        dueLift("10+7/-2", 7);
        dueLift("10+(0-7)/2", 7);
        dueLift("-7/-2", 3);
        dueLift("10+-1/2", 10);
        // the least int by -1 goes round to itself
        dueLift("0>(-(512*512*512*16)/-1)", 1);
        dueLift("-(512*512*512*16)=512*512*512*16", 1);
    }

    /** Then - ahead of a thing (any many). */
    private static void anyManyMinuses() {
        dueLift("-7", 0);
        dueLift("--7", 7);
        dueLift("9---7", 2);
        dueLift("9--7", 16);
        dueLift("2*--7", 14);
        dueLift("10+2*-3", 4);
        dueLift("-(3-9)", 6);
        dueLift("-2*-3", 6);
        dueLift(Edge.times("-", 38) + "7", 7);
        dueLift(Edge.times("-", 37) + "7", 0);
        dueLift(Edge.times("-", 37) + "7+9", 2);
    }

    // ---- promises 6, 7

    /** Of a LODGER, what 0 .. 6. NoSuchElementException: none such, another what. */
    private static void whatIsToldOfLodgers() {
        RentByTheWheel x = Check.with("011:0;599:987654321012");
        int[] first = {0, 1, 1, 0, 0, 0, 0};
        int[] last = {5, 9, 9, 9, 0, 0, 48};
        for (int what = 0; what <= 6; what++) {
            Check.due("lodger(0, " + what + ")", x.lodger(0, what), first[what]);
            Check.due("lodger(1, " + what + ")", x.lodger(1, what), last[what]);
        }
        Check.day(x, Edge.times(".", 11));
        Check.due("WANT of QUARTER 11", x.lodger(1, 3), 2);
        x.quarter(-1, -1);
        Check.due("WANT of QUARTER 0", x.lodger(1, 3), 9);
        Check.due("DRY in all but the one in which it wants nothing", x.lodger(1, 4), 11);
        for (int what : new int[] {-1, -2, 7, 8, Integer.MIN_VALUE, Integer.MAX_VALUE}) {
            Edge.thrown("lodger(0, " + what + ")", y -> y.lodger(0, what));
        }
        for (int lodger : WRONG_LODGERS) {
            Edge.thrown("lodger(" + lodger + ", 0)", y -> y.lodger(lodger, 0));
        }
        for (int lodger : Edge.FAR) {
            Edge.thrown("lodger(" + lodger + ", 0)", y -> y.lodger(lodger, 0));
        }
        Edge.question("lodger(2, 6)", y -> y.lodger(2, 6));
    }

    /** DEBT of a LODGER. NoSuchElementException: none such. */
    private static void debtOfNoneSuch() {
        RentByTheWheel x = Check.with(Check.THREE);
        Check.due("the first", x.debt(0), 0);
        Check.due("the last", x.debt(2), 0);
        for (int lodger : WRONG_LODGERS) {
            Edge.thrown("debt(" + lodger + ")", y -> y.debt(lodger));
        }
        for (int lodger : Edge.FAR) {
            Edge.thrown("debt(" + lodger + ")", y -> y.debt(lodger));
        }
    }

    // ---- promise 8

    /** With THE WHEEL alone (other NONE), or with another one; the ROW: TURNS, what the other one LIFTS (0 without). */
    private static void liftsWithOther() {
        RentByTheWheel x = Check.with(Check.THREE);
        Check.due("the first alone", x, x.lifts(0, -1), 3, 3, 0);
        Check.due("the last alone", x, x.lifts(2, -1), 1, 2, 0);
        Check.due("the first with the last", x, x.lifts(0, 2), 2, 2, 1);
        Check.due("the last with the first", x, x.lifts(2, 0), 1, 2, 2);
        Edge.question("lifts(0, 2)", y -> y.lifts(0, 2));
        Check.rule(x, "l+1");
        Check.due("an empty CISTERN", x, x.lifts(0, 1), 1, 3, 1);
        x.set(2, 50);
        Check.due("a full one", x, x.lifts(0, 1), 51, 3, 51);
        x.brake(1, 1);
        Check.due("the other one brakes", x, x.lifts(0, 1), 51, 3, 0);
        Check.due("it brakes itself", x, x.lifts(1, 0), 0, 3, 51);
    }

    /** NONE: none such, like ones. */
    private static void liftsRefused() {
        int[][] wrong = {{0, 0}, {2, 2}, {-1, -1}, {-1, 0}, {-2, -1}, {0, -2}, {3, -1}, {0, 3}, {3, 0}, {3, 3}, {32, -1}, {0, 32}};
        for (int[] w : wrong) {
            Edge.refused("lifts(" + w[0] + ", " + w[1] + ")", x -> x.lifts(w[0], w[1]), -1);
        }
        for (int far : Edge.FAR) {
            Edge.refused("lifts(" + far + ", -1)", x -> x.lifts(far, -1), -1);
            Edge.refused("lifts(0, " + far + ")", x -> x.lifts(0, far), -1);
        }
    }

    // ---- promise 9

    /** ROOM (what 0; 1 .. 999; what is more in THE CISTERN runs over). */
    private static void setRoom() {
        RentByTheWheel x = new RentByTheWheel();
        Check.due("ROOM 999", x.set(0, 999), 50);
        Check.due("ROOM is 999", x.count(5), 999);
        x.set(2, 999);
        Check.due("ROOM 998", x.set(0, 998), 999);
        Check.due("one runs over", x.count(4), 998);
        Check.due("ROOM 998 once more", x.set(0, 998), 998);
        Check.due("nothing runs over", x.count(4), 998);
        Check.due("ROOM 999 again", x.set(0, 999), 998);
        Check.due("what ran over is gone", x.count(4), 998);
        Check.due("ROOM 1", x.set(0, 1), 999);
        Check.due("ROOM is 1", x.count(5), 1);
        Check.due("one is left", x.count(4), 1);
    }

    /** DUE (1; 0 .. 9). */
    private static void setDue() {
        RentByTheWheel x = new RentByTheWheel();
        Check.due("DUE 0", x.set(1, 0), 2);
        Check.due("DUE 9", x.set(1, 9), 0);
        Check.due("DUE 9 once more", x.set(1, 9), 9);
        Check.due("DUE is 9", x.count(6), 9);
    }

    /** LEVEL (2; 0 .. ROOM). */
    private static void setLevel() {
        RentByTheWheel x = new RentByTheWheel();
        Check.due("LEVEL is ROOM", x.set(2, 50), 0);
        Check.due("LEVEL 0", x.set(2, 0), 50);
        Check.due("LEVEL is 0", x.count(4), 0);
        x.set(0, 999);
        Check.due("LEVEL 999", x.set(2, 999), 0);
        Check.due("LEVEL is 999", x.count(4), 999);
        x.set(0, 1);
        Check.due("LEVEL 2 in ROOM 1", x.set(2, 2), -1);
        Check.due("LEVEL 1 in ROOM 1", x.set(2, 1), 1);
    }

    /** Refused: others. */
    private static void setRefused() {
        // ROOM is 40 there
        int[][] wrong = {{0, 0}, {0, -1}, {0, 1000}, {1, -1}, {1, 10}, {2, -1}, {2, 41}, {2, 999}, {-1, 1}, {3, 1}, {4, 1}};
        for (int[] w : wrong) {
            Edge.refused("set(" + w[0] + ", " + w[1] + ")", x -> x.set(w[0], w[1]), -1);
        }
        for (int far : Edge.FAR) {
            Edge.refused("set(" + far + ", 1)", x -> x.set(far, 1), -1);
            for (int what = 0; what <= 2; what++) {
                int w = what;
                Edge.refused("set(" + w + ", " + far + ")", x -> x.set(w, far), -1);
            }
        }
    }

    // ---- promise 10

    /** A LODGER BRAKES (1) or not (0) from now on: what it did. */
    private static void brakes() {
        RentByTheWheel x = Check.with(Edge.times("011:0;", 5) + "011:0");
        for (int lodger = 0; lodger < 6; lodger++) {
            Check.due("not yet", x.brake(lodger, 0), 0);
            Check.due("from now on", x.brake(lodger, 1), 0);
            Check.due("still", x.brake(lodger, 1), 1);
            for (int other = 0; other < 6; other++) {
                Check.due("BRAKES of " + other, x.lodger(other, 5), other == lodger ? 1 : 0);
            }
            Check.due("no more", x.brake(lodger, 0), 1);
            Check.due("not", x.brake(lodger, 0), 0);
        }
    }

    /** Refused: others. */
    private static void brakeRefused() {
        for (int v : new int[] {-1, 2, 3, 256, 257}) {
            Edge.refused("brake(0, " + v + ")", x -> x.brake(0, v), -1);
            Edge.refused("brake(2, " + v + ")", x -> x.brake(2, v), -1);
        }
        for (int lodger : WRONG_LODGERS) {
            Edge.refused("brake(" + lodger + ", 0)", x -> x.brake(lodger, 0), -1);
            Edge.refused("brake(" + lodger + ", 1)", x -> x.brake(lodger, 1), -1);
        }
        for (int far : Edge.FAR) {
            Edge.refused("brake(" + far + ", 1)", x -> x.brake(far, 1), -1);
            Edge.refused("brake(0, " + far + ")", x -> x.brake(0, far), -1);
        }
    }

    // ---- promise 11

    private static void duePace(int kind, int entry, int pace) {
        RentByTheWheel x = Check.with("055:0");
        Check.due("kind " + kind + ", entry " + entry, x.sheet(kind, 1, entry, 0), pace);
        Check.due("PACE by kind " + kind + ", entry " + entry, x.lodger(0, 1), pace);
    }

    /** Of bytes the lowest bits, with their sign; put to 1 .. 9. */
    private static void sheetOfBytes() {
        int[] entries = {-1, 0, 1, 2, 8, 9, 10, 127, 128, 129, 255, 256, 257, 264, 265, 266, 383, 384, -128, -129, -247, -248, -255, -256,
            Integer.MAX_VALUE, Integer.MIN_VALUE, Integer.MIN_VALUE + 7};
        int[] paces = {1, 1, 1, 2, 8, 9, 9, 9, 1, 1, 1, 1, 1, 8, 9, 9, 9, 1, 1, 9, 9, 8, 1, 1, 1, 1, 7};
        for (int i = 0; i < entries.length; i++) {
            duePace(0, entries[i], paces[i]);
        }
    }

    /** Of shorts the lowest bits, with their sign; put to 1 .. 9. */
    private static void sheetOfShorts() {
        int[] entries = {-1, 0, 1, 9, 10, 127, 128, 255, 256, 32767, 32768, 65535, 65536, 65537, 65544, 65545, 65546, -32768, -32769, -65528,
            Integer.MAX_VALUE, Integer.MIN_VALUE, Integer.MIN_VALUE + 7};
        int[] paces = {1, 1, 1, 9, 9, 9, 9, 9, 9, 9, 1, 1, 1, 1, 8, 9, 9, 1, 9, 8, 1, 1, 7};
        for (int i = 0; i < entries.length; i++) {
            duePace(1, entries[i], paces[i]);
        }
    }

    /** Ints, put to 1 .. 9; entries f, f + step, .. go round as ints. */
    private static void sheetOfInts() {
        int[] entries = {-1, 0, 1, 5, 9, 10, 65536, Integer.MAX_VALUE, Integer.MIN_VALUE};
        int[] paces = {1, 1, 1, 5, 9, 9, 9, 9, 1};
        for (int i = 0; i < entries.length; i++) {
            duePace(2, entries[i], paces[i]);
        }
        duePaces("the greatest and 1", 2, 3, Integer.MAX_VALUE, 1, 9, 1, 1);
        duePaces("the least and -1", 2, 3, Integer.MIN_VALUE, -1, 1, 9, 9);
        duePaces("round and back", 2, 3, 5, Integer.MIN_VALUE, 5, 1, 5);
        duePaces("bytes that go round", 0, 3, 120, 7, 9, 9, 1);
        duePaces("shorts that go round", 1, 3, 4, 32766, 4, 1, 1);
        duePaces("by steps below 0", 2, 3, 9, -4, 9, 5, 1);
        duePaces("by steps of 0", 0, 3, 6, 0, 6, 6, 6);
    }

    private static void duePaces(String what, int kind, int n, int f, int step, int... paces) {
        RentByTheWheel x = Check.with("055:0;055:0;055:0");
        int sum = 0;
        for (int pace : paces) {
            sum += pace;
        }
        Check.due(what, x.sheet(kind, n, f, step), sum);
        for (int i = 0; i < paces.length; i++) {
            Check.due(what + ": PACE of " + i, x.lodger(i, 1), paces[i]);
        }
    }

    /** Of n entries: those behind it have 1; n at most 6. */
    private static void sheetShortAndLong() {
        duePaces("no entries", 2, 0, 7, 1, 1, 1, 1);
        duePaces("one entry", 2, 1, 7, 1, 7, 1, 1);
        duePaces("two entries", 0, 2, 7, 1, 7, 8, 1);
        duePaces("three entries", 1, 3, 7, 1, 7, 8, 9);
        duePaces("four entries", 2, 4, 4, 1, 4, 5, 6);
        duePaces("six entries", 2, 6, 4, 1, 4, 5, 6);
        RentByTheWheel x = Check.with(Edge.times("011:0;", 5) + "011:0");
        Check.due("six of six", x.sheet(2, 6, 2, 1), 27);
        Check.due("the last one", x.lodger(5, 1), 7);
        Check.due("five of six", x.sheet(2, 5, 3, 1), 26);
        Check.due("the last one then", x.lodger(5, 1), 1);
        RentByTheWheel y = new RentByTheWheel();
        Check.due("of nobody", y.sheet(2, 6, 5, 0), 0);
        Check.house(y, "055:0");
        Check.due("who comes later has its own PACE", y.lodger(0, 1), 5);
    }

    /** -2: n below 0 (of kinds 0 .. 2; nothing changes). */
    private static void sheetBelow0() {
        for (int kind = 0; kind <= 2; kind++) {
            int k = kind;
            Edge.refused("sheet(" + k + ", -1, ..)", x -> x.sheet(k, -1, 5, 1), -2);
            Edge.refused("sheet(" + k + ", MIN, ..)", x -> x.sheet(k, Integer.MIN_VALUE, 5, 1), -2);
        }
    }

    /** -3: missing (all 1), with whatever n up to 6. */
    private static void sheetMissing() {
        for (int n : new int[] {Integer.MIN_VALUE, -1, 0, 3, 6}) {
            RentByTheWheel x = Check.with(Check.THREE);
            Check.due("sheet(3, " + n + ", ..)", x.sheet(3, n, 5, 1), -3);
            for (int i = 0; i < 3; i++) {
                Check.due("PACE 1", x.lodger(i, 1), 1);
            }
        }
        Check.due("missing, of nobody", new RentByTheWheel().sheet(3, 0, 0, 0), -3);
    }

    /** NONE: another kind, n above 6 (these first). */
    private static void sheetRefused() {
        for (int kind : new int[] {-1, -2, 4, 5, Integer.MIN_VALUE, Integer.MAX_VALUE}) {
            for (int n : new int[] {-1, 0, 3, 6, 7}) {
                Edge.refused("sheet(" + kind + ", " + n + ", ..)", x -> x.sheet(kind, n, 5, 1), -1);
            }
        }
        for (int kind = 0; kind <= 3; kind++) {
            int k = kind;
            Edge.refused("sheet(" + k + ", 7, ..)", x -> x.sheet(k, 7, 5, 1), -1);
            Edge.refused("sheet(" + k + ", MAX, ..)", x -> x.sheet(k, Integer.MAX_VALUE, 5, 1), -1);
        }
    }
}
