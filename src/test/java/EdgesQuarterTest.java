/** Boundary cases of promises 12 to 15: a test for each sentence that names one. */
public final class EdgesQuarterTest {
    private static final String TREADS = ".abcdef[";

    public static void main(String[] args) {
        quarterOfNobodyOneTwo();
        quarterRow();
        quarterRefused();
        emptyDay();
        signsOfDay();
        dayEndsTooEarly();
        dayOf48();
        dayOfMoreThan48();
        nothingGoesBy();
        tillOneCant();
        whoTreads();
        dayRow();
        lookChangesNothing();
        undoOfNone();
        twelveAreKept();
        dayAsOne();
        levelRoomAtMost();
        whatIsUndone();
        houseForgets();
        againForgets();
        Check.end();
    }

    // ---- promise 12

    /** With one on THE WHEEL (other NONE), two, or nobody (both NONE). */
    private static void quarterOfNobodyOneTwo() {
        RentByTheWheel x = Check.with(Edge.times("011:0;", 5) + "011:0");
        Check.rule(x, "y+n");
        Check.due("nobody", x, x.quarter(-1, -1), 0, 0, 0, 0);
        Check.due("the first", x, x.quarter(0, -1), 1, 1, 0, 0);
        Check.due("the last", x, x.quarter(5, -1), 2, 1, 0, 0);
        Check.due("the first and the last", x, x.quarter(0, 5), 6, 4, 0, 0);
        Check.due("the last and the first", x, x.quarter(5, 0), 10, 4, 0, 0);
        Check.due("NOW", x.count(1), 5);
        Check.due("DEBT of the first", x.debt(0), -3);
        Check.due("DEBT of the last", x.debt(5), -3);
        Check.due("DEBT of another", x.debt(1), 0);
    }

    /** The ROW: pails lifted, that ran over, LODGERS (bits) that were DRY in it. */
    private static void quarterRow() {
        RentByTheWheel x = Check.with(Edge.times("011:9;", 5) + "011:9");
        Check.due("all were DRY", x, x.quarter(-1, -1), 0, 0, 0, 63);
        x.set(2, 45);
        Check.due("the last was", x, x.quarter(-1, -1), 0, 0, 0, 32);
        Check.rule(x, "99");
        Check.due("nobody was", x, x.quarter(0, 1), 50 - 45, 198, 148, 32);
        x.set(0, 54);
        Check.due("just enough", x, x.quarter(0, -1), 0, 99, 50, 0);
        x.set(0, 999);
        x.set(2, 999);
        Check.due("all runs over", x, x.quarter(0, 5), 945, 198, 198, 0);
        RentByTheWheel y = Check.with(Check.THREE);
        y.quarter(-1, -1);
        Check.due("those of this QUARTER alone", y, y.quarter(1, -1), 6, 11, 0, 0);
    }

    /** -2: others, like ones. */
    private static void quarterRefused() {
        int[][] wrong = {{3, -1}, {-2, -1}, {6, -1}, {32, -1}, {-1, 0}, {-1, 2}, {-1, 3}, {-1, -2}, {0, 0}, {2, 2}, {0, -2}, {0, 3}, {3, 0}, {3, 3},
            {-2, -2}, {-2, 0}};
        for (int[] w : wrong) {
            Edge.refused("quarter(" + w[0] + ", " + w[1] + ")", x -> x.quarter(w[0], w[1]), -2);
        }
        for (int far : Edge.FAR) {
            Edge.refused("quarter(" + far + ", -1)", x -> x.quarter(far, -1), -2);
            Edge.refused("quarter(-1, " + far + ")", x -> x.quarter(-1, far), -2);
            Edge.refused("quarter(0, " + far + ")", x -> x.quarter(0, far), -2);
        }
    }

    // ---- promise 13

    /** An empty one: nothing. */
    private static void emptyDay() {
        RentByTheWheel x = Check.with(Check.THREE);
        x.quarter(1, -1);
        Check.due("no QUARTER", x, Check.day(x, ""), 0, 8, 0, 0);
        Check.due("NOW stays", x.count(1), 1);
        Check.due("it can't be undone", x.count(10), 1);
        Check.due("no QUARTER, looked at", x, Check.look(x, ""), 0, 8, 0, 0);
    }

    /** -1 - p: the sign at p can't stand there. */
    private static void signsOfDay() {
        String[] whole = {"", ".", "a", "f", "[ab]", "[fa]", ".a[ab]", Edge.times(".", 47), Edge.times("[ab]", 11)};
        for (String text : whole) {
            dueDay(text, TREADS);
        }
        dueDay("[", "abcdef");
        dueDay("[a", "bcdef");
        dueDay("[c", "abdef");
        dueDay("[f", "abcde");
        dueDay("[ab", "]");
        dueDay("[fe", "]");
        dueDay(".[", "abcdef");
        dueDay(Edge.times("[ab]", 11) + "[b", "acdef");
        dueDay(Edge.times("[ab]", 11) + "[ba", "]");
    }

    private static void dueDay(String text, String signs) {
        Edge.stand("day", text, signs, EdgesQuarterTest::sixOfThem, RentByTheWheel::day);
        Edge.stand("day of nobody", text, signs, RentByTheWheel::new, RentByTheWheel::day);
        Edge.stand("look", text, signs, EdgesQuarterTest::sixOfThem, RentByTheWheel::look);
    }

    private static RentByTheWheel sixOfThem() {
        RentByTheWheel x = new RentByTheWheel();
        Check.house(x, Edge.times("011:0;", 5) + "011:0");
        return x;
    }

    /** Its end, if it ends too early. */
    private static void dayEndsTooEarly() {
        String text = "a[bc].";
        int[] answers = {0, 1, -3, -4, -5, 2, 3};
        for (int n = 0; n <= text.length(); n++) {
            RentByTheWheel x = sixOfThem();
            Check.due("day ends at " + n, Check.day(x, text.substring(0, n)), answers[n]);
            Check.due("NOW then", x.count(1), Math.max(0, answers[n]));
        }
    }

    /** 48 signs at most. */
    private static void dayOf48() {
        RentByTheWheel x = sixOfThem();
        Check.due("47 of nobody", Check.day(x, Edge.times(".", 47)), 47);
        Check.due("48 of nobody", Check.day(x, Edge.times(".", 48)), 48);
        Check.due("12 of two", Check.day(x, Edge.times("[ab]", 12)), 12);
        Check.due("48 of one", Check.day(x, Edge.times("f", 48)), 48);
        Check.due("NOW", x.count(1), 155);
        Check.due("four can be undone", x.count(10), 4);
        Check.due("48, the last one wrong", Check.day(x, Edge.times(".", 47) + "x"), -48);
        Check.due("48 that end too early behind [", Check.day(x, Edge.times(".", 47) + "["), -49);
        Check.due("48 that end too early behind [a", Check.day(x, Edge.times(".", 46) + "[a"), -49);
        Check.due("48 that end too early behind [ab", Check.day(x, Edge.times(".", 45) + "[ab"), -49);
        Check.due("48, two alike at the end", Check.day(x, Edge.times(".", 45) + "[aa"), -48);
        Check.due("NOW stays", x.count(1), 155);
    }

    /** 48, if it has more and the first 48 could go on or end. */
    private static void dayOfMoreThan48() {
        String[] more = {".", "x", "]", "a]", "..", Edge.times(".", 32)};
        for (String behind : more) {
            dueRefused("could end", Edge.times(".", 48) + behind, -49);
            dueRefused("could end with two", Edge.times("[ab]", 12) + behind, -49);
            dueRefused("could go on behind [", Edge.times(".", 47) + "[" + behind, -49);
            dueRefused("could go on behind [a", Edge.times(".", 46) + "[a" + behind, -49);
            dueRefused("could go on behind [ab", Edge.times(".", 45) + "[ab" + behind, -49);
            dueRefused("could not", Edge.times(".", 47) + "x" + behind, -48);
            dueRefused("could not, two alike", Edge.times(".", 44) + "[aa]" + behind, -47);
        }
    }

    private static void dueRefused(String what, String text, long answer) {
        Edge.refusedText("day: " + what, text, RentByTheWheel::day, answer);
        Edge.refusedText("look: " + what, text, RentByTheWheel::look, answer);
    }

    /** Nothing goes by then. */
    private static void nothingGoesBy() {
        String[] wrong = {"x", "..x", "ab[", "ab[a", "a[ab", "a[aa]", "a]", "ag", "aA", "[a.]", "[[", "[]", "a;b", "a b"};
        int[] at = {0, 2, 3, 4, 4, 3, 1, 1, 1, 2, 1, 1, 1, 1};
        for (int i = 0; i < wrong.length; i++) {
            dueRefused("wrong", wrong[i], -1 - at[i]);
        }
    }

    /** They go by one by one, till one can't (no such LODGER): how many did. */
    private static void tillOneCant() {
        RentByTheWheel x = Check.with(Check.THREE);
        String[] texts = {"d", "d..", "[ad]", "[da]", "[de]", ".d", "..[cd].", "abc", "abcd", "f", "[ab]f[ab]"};
        int[] went = {0, 0, 0, 0, 0, 1, 2, 3, 3, 0, 1};
        for (int i = 0; i < texts.length; i++) {
            int now = x.count(1);
            int undos = x.count(10);
            Check.due("look " + texts[i], Check.look(x, texts[i]), went[i]);
            Check.due("NOW behind look " + texts[i], x.count(1), now);
            Check.due("day " + texts[i], Check.day(x, texts[i]), went[i]);
            Check.due("NOW behind " + texts[i], x.count(1), now + went[i]);
            Check.due("what can be undone behind " + texts[i], x.count(10), undos + (went[i] > 0 ? 1 : 0));
        }
        RentByTheWheel y = new RentByTheWheel();
        Check.due("of nobody", Check.day(y, "..a."), 2);
        // signs are looked at first, all of them
        Check.due("one can't, and then a wrong sign", Check.day(y, ".ax"), -3);
        Check.due("NOW", y.count(1), 2);
    }

    /** A letter a .. f (that one), or [, two unlike letters, ] (these two). */
    private static void whoTreads() {
        for (int one = 0; one < 6; one++) {
            for (int other = 0; other < 6; other++) {
                RentByTheWheel x = sixOfThem();
                char first = (char) ('a' + one);
                char second = (char) ('a' + other);
                Check.due("who treads", Check.day(x, one == other ? "" + first : "[" + first + second + "]"), 1);
                for (int i = 0; i < 6; i++) {
                    Check.due("DEBT of " + i + " by " + first + second, x.debt(i), i == one || i == other ? -1 : 0);
                }
            }
        }
    }

    /** The ROW: LEVEL then, how often somebody was DRY in these, pails that ran over. */
    private static void dayRow() {
        RentByTheWheel x = Check.with(Check.THREE);
        x.quarter(-1, -1);
        Check.due("in these alone", x, Check.day(x, "d"), 0, 0, 0, 0);
        Check.due("DRY twice in one, once in another", x, Check.day(x, ".c"), 2, 0, 3, 0);
        x.set(0, 10);
        Check.due("of two QUARTERS that ran over", x, Check.day(x, "bb"), 2, 7, 0, 1 + 6);
        Check.due("till one can't", x, Check.day(x, "bd"), 1, 5, 0, 8);
    }

    // ---- promise 14

    /** What day() of THE TEXT would do; answers and ROW likewise (nothing changes). */
    private static void lookChangesNothing() {
        String[] texts = {"", ".", "c", "[ab]", "b.[ab]a" + Edge.times("ba", 10), Edge.times("a", 48), "ad", "d", "x", "[a"};
        for (String text : texts) {
            RentByTheWheel x = Edge.busy();
            RentByTheWheel twin = Edge.busy();
            RentByTheWheel still = Edge.busy();
            still.end(0);
            int went = Check.look(x, text);
            Check.due("day " + text, Check.day(twin, text), went);
            Check.same("ROW of " + text, Check.rowOf(twin), Check.rowOf(x));
            Check.same("look " + text + " changes nothing", Edge.wholeButRow(x), Edge.wholeButRow(still));
        }
    }

    // ---- promise 15

    /** Refused: none. */
    private static void undoOfNone() {
        Check.due("at first", new RentByTheWheel().undo(), -1);
        Edge.refused("undo", EdgesQuarterTest::allUndone, RentByTheWheel::undo, -1);
        RentByTheWheel x = allUndone();
        x.quarter(0, -1);
        Check.due("one is there then", x.undo(), 0);
        Check.due("and no more", x.undo(), -1);
    }

    private static RentByTheWheel allUndone() {
        RentByTheWheel x = Edge.busy();
        while (x.count(10) > 0) {
            x.undo();
        }
        return x;
    }

    /** Of 12 that are kept, the latest ones. */
    private static void twelveAreKept() {
        for (int calls = 10; calls <= 24; calls++) {
            RentByTheWheel x = Check.with(Check.THREE);
            String[] was = new String[calls];
            for (int i = 0; i < calls; i++) {
                was[i] = Edge.state(x);
                Check.due("quarter", x.quarter(i % 3, i % 2 == 0 ? -1 : (i + 1) % 3) >= 0, true);
                Check.due("what can be undone of " + (i + 1), x.count(10), Math.min(12, i + 1));
            }
            int left = Math.min(12, calls);
            for (int i = calls - 1; left > 0; i--) {
                left--;
                Check.due("undo, of " + calls, x.undo(), left);
                Check.same("as ahead of it, of " + calls, Edge.state(x), was[i]);
            }
            Check.due("no more, of " + calls, x.undo(), -1);
            Check.due("NOW, of " + calls, x.count(1), Math.max(0, calls - 12));
        }
    }

    /** day() by which one QUARTER went by, as one; by which none did, not. */
    private static void dayAsOne() {
        RentByTheWheel x = Check.with(Check.THREE);
        String first = Edge.state(x);
        Check.day(x, "b");
        String second = Edge.state(x);
        Check.day(x, Edge.times("[ab]", 12));
        String third = Edge.state(x);
        Check.day(x, "abd");
        Check.due("three", x.count(10), 3);
        Check.day(x, "d");
        Check.day(x, "");
        Check.day(x, "x");
        Check.look(x, "abc");
        x.quarter(3, -1);
        Check.due("none by which nothing went by", x.count(10), 3);
        Check.due("undo", x.undo(), 2);
        Check.same("as ahead of abd", Edge.state(x), third);
        Check.due("undo", x.undo(), 1);
        Check.same("as ahead of 12 QUARTERS", Edge.state(x), second);
        Check.due("undo", x.undo(), 0);
        Check.same("as ahead of b", Edge.state(x), first);
    }

    /** LEVEL (ROOM at most). */
    private static void levelRoomAtMost() {
        int[] rooms = {19, 20, 21, 999, 1};
        int[] levels = {19, 20, 20, 20, 1};
        for (int i = 0; i < rooms.length; i++) {
            RentByTheWheel x = Check.with(Check.THREE);
            x.set(2, 20);
            x.quarter(-1, -1);
            x.set(0, rooms[i]);
            x.undo();
            Check.due("undone in ROOM " + rooms[i], x.count(4), levels[i]);
            Check.due("ROOM stays", x.count(5), rooms[i]);
        }
        RentByTheWheel y = Check.with(Check.THREE);
        y.set(0, 999);
        y.set(2, 999);
        y.quarter(-1, -1);
        y.undo();
        Check.due("999 in ROOM 999", y.count(4), 999);
    }

    /** NOW, LEVEL, DEBTS, DRY are as ahead of it; nothing else is undone. */
    private static void whatIsUndone() {
        RentByTheWheel x = Check.with(Check.THREE);
        Check.day(x, Edge.times(".", 11));
        String was = Edge.state(x);
        x.quarter(1, 0);
        Check.due("a DAY is over", x.debt(2), 4);
        x.set(0, 60);
        x.set(1, 5);
        x.set(2, 33);
        x.brake(2, 1);
        x.sheet(2, 3, 7, 1);
        x.peg(1, 1);
        Check.rule(x, "7");
        Check.text(x, "..");
        x.undo();
        Check.same("as ahead of it", Edge.state(x), was);
        Check.due("ROOM", x.count(5), 60);
        Check.due("DUE", x.count(6), 5);
        Check.due("BRAKES", x.lodger(2, 5), 1);
        Check.due("PACE", x.lodger(0, 1), 7);
        Check.due("what was read", x.count(9), 1);
        Check.due("THE TEXT", x.count(12), 2);
        Check.due("THE RULE", x.lifts(0, -1), 7);
        RentByTheWheel y = Check.with(Edge.times("011:9;", 5) + "011:9");
        Check.day(y, "abcdef");
        y.undo();
        for (int i = 0; i < 6; i++) {
            Check.due("DEBT of " + i, y.debt(i), 0);
            Check.due("DRY of " + i, y.lodger(i, 4), 0);
        }
    }

    /** house() forgets them, if it is not refused; an empty house() does not. */
    private static void houseForgets() {
        RentByTheWheel x = Check.with(Check.THREE);
        x.quarter(0, -1);
        x.quarter(0, -1);
        Check.house(x, "");
        Check.due("an empty one", x.count(10), 2);
        Check.house(x, "6");
        Check.due("a refused one", x.count(10), 2);
        Check.house(x, "011:0;011:0;011:0;011:0");
        Check.due("one for which there is no room", x.count(10), 2);
        Check.house(x, "011:0");
        Check.due("one", x.count(10), 0);
        Check.due("undo", x.undo(), -1);
        Check.due("NOW stays", x.count(1), 2);
        x.quarter(3, -1);
        Check.due("undo then", x.undo(), 0);
        Check.due("NOW", x.count(1), 2);
    }

    /** again() forgets them, if it is not refused. */
    private static void againForgets() {
        RentByTheWheel x = Check.with(Check.THREE);
        x.quarter(0, -1);
        x.again(0);
        x.again(1);
        x.again(2);
        x.again(-1);
        Check.due("refused ones", x.count(10), 1);
        x.keep(1);
        Check.due("keep", x.count(10), 1);
        x.again(0);
        Check.due("nothing is kept under 0", x.count(10), 1);
        x.again(1);
        Check.due("again", x.count(10), 0);
        Check.due("undo", x.undo(), -1);
    }
}
