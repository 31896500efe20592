import java.math.BigInteger;
import java.nio.ByteBuffer;
import java.util.ArrayList;
import java.util.Arrays;
import java.util.HashMap;
import java.util.List;
import java.util.Map;
import java.util.NoSuchElementException;
import java.util.TreeMap;
import java.util.function.Predicate;
import java.util.stream.IntStream;

/**
 * The whole document read once more, call by call, by other means than the class: texts are told right by the words
 * "could go on or end" alone, rules are reckoned by splitting their text, everything else by trying.
 */
final class Whole {
    static final String LINE = "[0-5][1-9][1-9]:[0-9]{1,12}";
    static final String NEGATED = "-*([0-9]{1,3}|[tpwlnqy])";
    static final String PRODUCT = NEGATED + "([*/]" + NEGATED + ")*";
    static final String SUM = PRODUCT + "([+-]" + PRODUCT + ")*";
    static final String FLAT = SUM + "([<>=]" + SUM + ")?";

    /** NOW, LEVEL, DEBTS, DRY, and the ROOM in which they go on. */
    static final class Moment {
        int now;
        int level;
        int room = 50;
        int[] debts = new int[6];
        int[] dries = new int[6];
        int lifted;
        int over;
        int dryBits;

        Moment copy() {
            Moment c = new Moment();
            c.now = now;
            c.level = level;
            c.room = room;
            c.debts = debts.clone();
            c.dries = dries.clone();
            return c;
        }

        void becomes(Moment other) {
            now = other.now;
            level = Math.min(room, other.level);
            debts = other.debts.clone();
            dries = other.dries.clone();
        }
    }

    String text = "";
    String rule = "";
    int many;
    int[] storeys = new int[6];
    int[] paces = new int[6];
    int[] weights = new int[6];
    String[] wants = new String[6];
    boolean[] brakes = new boolean[6];
    int due = 2;
    Moment is = new Moment();
    long[] row = {};
    List<Moment> undos = new ArrayList<>();
    Moment[] kept = new Moment[2];
    int[] keptOf = new int[2];
    String[] values = {};
    List<int[]> read = new ArrayList<>();
    private final Map<String, Integer> reckoned = new HashMap<>();

    long told(long answer, long... numbers) {
        row = numbers;
        return answer;
    }

    boolean has(int lodger) {
        return lodger >= 0 && lodger < many;
    }

    boolean bitsOfSuch(int those) {
        for (int i = 0; i < 32; i++) {
            if ((those >>> i & 1) == 1 && !has(i)) {
                return false;
            }
        }
        return true;
    }

    static int[] members(int set) {
        return IntStream.range(0, 6).filter(i -> (set >> i & 1) == 1).toArray();
    }

    // ---- texts

    /** Where the first sign is that can't stand there, or the end of a text that ends too early; -1: it is one. */
    static int fault(String text, int limit, Predicate<String> isOne, Predicate<String> canGoOn) {
        for (int p = 0; p < text.length() && p < limit; p++) {
            String first = text.substring(0, p + 1);
            if (!isOne.test(first) && !canGoOn.test(first)) {
                return p;
            }
        }
        return text.length() > limit ? limit : isOne.test(text) ? -1 : text.length();
    }

    boolean isHouse(String s) {
        return s.matches(LINE + "(;" + LINE + ")*") && s.split(";").length <= 6 - many;
    }

    boolean houseCanGoOn(String s) {
        if (s.endsWith(";") && isHouse(s.substring(0, s.length() - 1))) {
            return true;
        }
        String rest = "011:1";
        for (int i = 0; i < rest.length(); i++) {
            if (isHouse(s + rest.substring(i))) {
                return true;
            }
        }
        return false;
    }

    /** What stands in ( ) is a thing: it is put down as one, the innermost first, at most four times. */
    static boolean isRule(String s) {
        String flat = s;
        for (int i = 0; i < 4; i++) {
            flat = flat.replaceAll("\\((" + FLAT + ")\\)", "t");
        }
        return flat.matches(FLAT);
    }

    static boolean ruleCanGoOn(String s) {
        for (String rest : new String[] {"", ")", "))", ")))", "))))"}) {
            if (isRule(s + rest) || isRule(s + "t" + rest)) {
                return true;
            }
        }
        return false;
    }

    static boolean isDay(String s) {
        return s.matches("(\\.|[a-f]|\\[([a-f])(?!\\2)[a-f]\\])*");
    }

    static boolean dayCanGoOn(String s) {
        return isDay(s + "]") || isDay(s + "a]") || isDay(s + "b]") || isDay(s + "ab]");
    }

    static boolean isValues(String s) {
        return s.matches("\\d\\d/\\d\\d|\\d{3}/\\d{3}/\\d{3}|\\d{4}/\\d{4}/\\d{4}/\\d{4}");
    }

    static boolean valuesCanGoOn(String s) {
        for (String all : new String[] {"11/11", "111/111/111", "1111/1111/1111/1111"}) {
            if (s.length() < all.length() && isValues(s + all.substring(s.length()))) {
                return true;
            }
        }
        return false;
    }

    long sign(int v) {
        if (text.length() + 4 > 80) {
            return -1;
        }
        for (byte b : ByteBuffer.allocate(4).putInt(v).array()) {
            text += (char) (b & 255);
        }
        return text.length();
    }

    boolean end(int n) {
        if (n < 0 || n > text.length()) {
            return false;
        }
        text = text.substring(0, n);
        return true;
    }

    private String taken() {
        String s = text;
        text = "";
        return s;
    }

    long house() {
        String s = taken();
        if (s.isEmpty()) {
            return 0;
        }
        int p = fault(s, 76, this::isHouse, this::houseCanGoOn);
        if (p >= 0) {
            return -1 - p;
        }
        String[] lines = s.split(";");
        for (String line : lines) {
            storeys[many] = line.charAt(0) - '0';
            paces[many] = line.charAt(1) - '0';
            weights[many] = line.charAt(2) - '0';
            wants[many] = line.substring(4);
            many++;
        }
        undos.clear();
        return lines.length;
    }

    long rule() {
        String s = taken();
        int p = s.isEmpty() ? -1 : fault(s, 40, Whole::isRule, Whole::ruleCanGoOn);
        if (p >= 0) {
            return -1 - p;
        }
        rule = s;
        reckoned.clear();
        return 0;
    }

    // ---- what is lifted

    static int reckon(String s, int[] things) {
        int at = lastOf(s, "<>=");
        at = at >= 0 ? at : lastOf(s, "+-");
        at = at >= 0 ? at : lastOf(s, "*/");
        if (at >= 0) {
            int a = reckon(s.substring(0, at), things);
            int b = reckon(s.substring(at + 1), things);
            switch (s.charAt(at)) {
                case '<': return a < b ? 1 : 0;
                case '>': return a > b ? 1 : 0;
                case '=': return a == b ? 1 : 0;
                case '+': return a + b;
                case '-': return a - b;
                case '*': return a * b;
                default: return b == 0 ? 0 : BigInteger.valueOf(a).divide(BigInteger.valueOf(b)).intValue();
            }
        }
        if (s.charAt(0) == '-') {
            return -reckon(s.substring(1), things);
        }
        if (s.charAt(0) == '(') {
            return reckon(s.substring(1, s.length() - 1), things);
        }
        int name = "tpwlnqy".indexOf(s.charAt(0));
        return name >= 0 ? things[name] : Integer.parseInt(s);
    }

    /** The last of some signs that joins two things and is in no ( ). */
    static int lastOf(String s, String signs) {
        int deep = 0;
        for (int p = s.length() - 1; p > 0; p--) {
            char c = s.charAt(p);
            deep += c == ')' ? 1 : c == '(' ? -1 : 0;
            boolean behindThing = "0123456789tpwlnqy)".indexOf(s.charAt(p - 1)) >= 0;
            if (deep == 0 && signs.indexOf(c) >= 0 && behindThing) {
                return p;
            }
        }
        return -1;
    }

    int turns(int... who) {
        return Arrays.stream(who).map(i -> paces[i]).min().orElse(0);
    }

    int unbraked(int one, int level, int now, int... who) {
        int[] things = {turns(who), paces[one], weights[one], level, who.length, now % 12, storeys[one]};
        int v = reckoned.computeIfAbsent(Arrays.toString(things), k -> reckon(rule.isEmpty() ? "t*(w+1)/4" : rule, things));
        return Math.max(0, Math.min(99, v));
    }

    int lift(int one, Moment m, int... who) {
        return brakes[one] ? 0 : unbraked(one, m.level, m.now, who);
    }

    int liftAll(Moment m, int... who) {
        return Arrays.stream(who).map(i -> lift(i, m, who)).sum();
    }

    int want(int lodger, int now) {
        return wants[lodger].charAt(now % 12 % wants[lodger].length()) - '0';
    }

    int wantsIn(int now) {
        int sum = 0;
        for (int i = 0; i < many; i++) {
            sum += want(i, now);
        }
        return sum;
    }

    /** A QUARTER goes by: how often somebody is DRY in it. */
    int pass(Moment m, int... who) {
        return pass(m, storeys, who);
    }

    int pass(Moment m, int[] by, int... who) {
        m.lifted = liftAll(m, who);
        m.over = Math.max(0, m.level + m.lifted - m.room);
        m.level = Math.min(m.room, m.level + m.lifted);
        for (int i : who) {
            m.debts[i] -= turns(who);
        }
        m.dryBits = 0;
        for (int place = 0; place < 36; place++) {
            int i = place % 6;
            if (has(i) && by[i] == place / 6) {
                if (m.level < want(i, m.now)) {
                    m.dries[i]++;
                    m.dryBits |= 1 << i;
                } else {
                    m.level -= want(i, m.now);
                }
            }
        }
        m.now++;
        for (int i = 0; i < many && m.now % 12 == 0; i++) {
            m.debts[i] += due * (storeys[i] + 1);
        }
        return Integer.bitCount(m.dryBits);
    }

    /** Those on THE WHEEL; null: others, like ones. */
    int[] onWheel(int lodger, int other) {
        if (lodger == -1 && other == -1) {
            return new int[0];
        }
        if (!has(lodger) || lodger == other) {
            return null;
        }
        return other == -1 ? new int[] {lodger} : has(other) ? new int[] {lodger, other} : null;
    }

    // ---- the house

    long lodger(int lodger, int what) {
        if (!has(lodger) || what < 0 || what > 6) {
            throw new NoSuchElementException();
        }
        int day = 0;
        for (int q = 0; q < 12; q++) {
            day += want(lodger, q);
        }
        return new long[] {storeys[lodger], paces[lodger], weights[lodger], want(lodger, is.now), is.dries[lodger], brakes[lodger] ? 1 : 0, day}[what];
    }

    long debt(int lodger) {
        if (!has(lodger)) {
            throw new NoSuchElementException();
        }
        return is.debts[lodger];
    }

    long lifts(int lodger, int other) {
        int[] who = onWheel(lodger, other);
        if (who == null || who.length == 0) {
            return -1;
        }
        return told(lift(lodger, is, who), turns(who), who.length == 1 ? 0 : lift(other, is, who));
    }

    long set(int what, int v) {
        int was = what == 0 ? is.room : what == 1 ? due : is.level;
        if (what == 0 && v >= 1 && v <= 999) {
            is.room = v;
            is.level = Math.min(v, is.level);
        } else if (what == 1 && v >= 0 && v <= 9) {
            due = v;
        } else if (what == 2 && v >= 0 && v <= is.room) {
            is.level = v;
        } else {
            return -1;
        }
        return was;
    }

    long brake(int lodger, int v) {
        if (!has(lodger) || v != 0 && v != 1) {
            return -1;
        }
        int was = brakes[lodger] ? 1 : 0;
        brakes[lodger] = v == 1;
        return was;
    }

    long sheet(int kind, int n, int f, int step) {
        if (kind < 0 || kind > 3 || n > 6) {
            return -1;
        }
        if (kind != 3 && n < 0) {
            return -2;
        }
        int entry = f;
        for (int i = 0; i < many; i++) {
            int told = kind == 0 ? (byte) entry : kind == 1 ? (short) entry : entry;
            paces[i] = kind == 3 || i >= n || told < 1 ? 1 : told > 9 ? 9 : told;
            entry += step;
        }
        reckoned.clear();
        return kind == 3 ? -3 : Arrays.stream(paces, 0, many).sum();
    }

    // ---- quarters

    private void remember() {
        undos.add(is.copy());
        if (undos.size() > 12) {
            undos.remove(0);
        }
    }

    long quarter(int lodger, int other) {
        int[] who = onWheel(lodger, other);
        if (who == null) {
            return -2;
        }
        remember();
        pass(is, who);
        return told(is.level, is.lifted, is.over, is.dryBits);
    }

    long day() {
        return goOn(is);
    }

    long look() {
        return goOn(is.copy());
    }

    private long goOn(Moment m) {
        String s = taken();
        int p = fault(s, 48, Whole::isDay, Whole::dayCanGoOn);
        if (p >= 0) {
            return -1 - p;
        }
        int went = 0;
        int dry = 0;
        int over = 0;
        String rest = s;
        while (!rest.isEmpty()) {
            int signs = rest.startsWith("[") ? 4 : 1;
            int[] who = rest.substring(0, signs).chars().filter(Character::isLetter).map(c -> c - 'a').toArray();
            if (Arrays.stream(who).anyMatch(i -> !has(i))) {
                break;
            }
            if (went == 0 && m == is) {
                remember();
            }
            dry += pass(m, who);
            over += m.over;
            went++;
            rest = rest.substring(signs);
        }
        return told(went, m.level, dry, over);
    }

    long undo() {
        if (undos.isEmpty()) {
            return -1;
        }
        is.becomes(undos.remove(undos.size() - 1));
        return undos.size();
    }

    // ---- rows of treading

    /** A row of treading so far: what it costs and the LEVEL behind it. */
    private record Trodden(int level, int dry, int treads, long[] who) {
        boolean less(Trodden other, boolean byLevel) {
            int c = Integer.compare(dry, other.dry);
            c = c != 0 ? c : Integer.compare(treads, other.treads);
            c = c != 0 || !byLevel ? c : Integer.compare(other.level, level);
            return c != 0 ? c < 0 : Arrays.compare(who, other.who) < 0;
        }
    }

    /** The best of all rows of n; of rows by which LEVEL is alike the best alone goes on. */
    private Trodden best(int those, int n, boolean byLevel) {
        Map<Integer, Trodden> at = new TreeMap<>();
        at.put(is.level, new Trodden(is.level, 0, 0, new long[0]));
        for (int q = 0; q < n; q++) {
            Map<Integer, Trodden> next = new TreeMap<>();
            for (Trodden row : at.values()) {
                for (int who = -1; who < many; who++) {
                    if (who == -1 || (those >> who & 1) == 1) {
                        Moment m = is.copy();
                        m.now += q;
                        m.level = row.level;
                        int dry = row.dry + (who == -1 ? pass(m) : pass(m, who));
                        long[] longer = Arrays.copyOf(row.who, q + 1);
                        longer[q] = who;
                        Trodden more = new Trodden(m.level, dry, row.treads + (who == -1 ? 0 : 1), longer);
                        next.merge(m.level, more, (a, b) -> b.less(a, false) ? b : a);
                    }
                }
            }
            at = next;
        }
        return at.values().stream().reduce((a, b) -> b.less(a, byLevel) ? b : a).orElseThrow();
    }

    long fewest(int those, int n) {
        if (!bitsOfSuch(those) || n < 1 || n > 12) {
            return -1;
        }
        Trodden row = best(those, n, true);
        return row.dry > 0 ? -2 : told(row.treads, row.who);
    }

    long driest(int those, int n) {
        if (!bitsOfSuch(those) || n < 1 || n > 12) {
            return -1;
        }
        Trodden row = best(those, n, false);
        return told(row.dry, row.who);
    }

    long pays(int those) {
        if (!bitsOfSuch(those)) {
            return -1;
        }
        Moment m = is.copy();
        for (int k = 0; k <= 40; k++) {
            long[] treads = new long[Integer.bitCount(those)];
            int at = 0;
            for (int i : members(those)) {
                while (m.debts[i] - treads[at] * paces[i] > 0) {
                    treads[at]++;
                }
                at++;
            }
            if (Arrays.stream(treads).sum() <= k) {
                return told(k, treads);
            }
            pass(m);
        }
        return -2;
    }

    long strongest(int those) {
        if (!bitsOfSuch(those) || those == 0) {
            return -1;
        }
        int best = -1;
        for (int i : members(those)) {
            best = best == -1 || lift(i, is, i) > lift(best, is, best) ? i : best;
        }
        return told(best, lift(best, is, best));
    }

    long roomy(int lodger, int n) {
        if (!has(lodger) || n < 1 || n > 60) {
            return -1;
        }
        int most = dryIn(999, lodger, n);
        for (int room = 1; ; room++) {
            int dry = dryIn(room, lodger, n);
            if (dry <= most) {
                return told(room, dry);
            }
        }
    }

    private int dryIn(int room, int lodger, int n) {
        Moment m = is.copy();
        m.room = room;
        m.level = Math.min(room, m.level);
        int dry = 0;
        for (int q = 0; q < n; q++) {
            dry += pass(m, lodger);
        }
        return dry;
    }

    private int owesMost(Moment m) {
        int best = 0;
        for (int i = 0; i < many; i++) {
            best = m.debts[i] > m.debts[best] ? i : best;
        }
        return best;
    }

    long even(int n) {
        if (n < 1 || n > 60) {
            return -1;
        }
        if (many == 0) {
            return -2;
        }
        Moment m = is.copy();
        int dry = 0;
        int idle = 0;
        for (int q = 0; q < n; q++) {
            int who = owesMost(m);
            if (m.debts[who] > 0) {
                dry += pass(m, who);
            } else {
                dry += pass(m);
                idle++;
            }
        }
        return told(dry, m.level, m.debts[owesMost(m)], idle);
    }

    long thirst(int n) {
        if (n < 1 || n > 60) {
            return -1;
        }
        int sum = 0;
        int when = 0;
        for (int q = 0; q < n; q++) {
            sum += wantsIn(is.now + q);
            when = wantsIn(is.now + q) > wantsIn(is.now + when) ? q : when;
        }
        return told(sum, when, wantsIn(is.now + when));
    }

    long bath(int lodger, int v) {
        if (!has(lodger) || v < 1 || v > 999) {
            return -1;
        }
        Moment m = is.copy();
        int dry = 0;
        for (int q = 1; q <= 60; q++) {
            dry += pass(m, lodger);
            if (m.level >= v) {
                return told(q, dry);
            }
        }
        return -2;
    }

    private long[] sharesBy(int aDue) {
        long[] all = new long[many + 1];
        for (int i = 0; i < many; i++) {
            while (all[i] * paces[i] < aDue * (storeys[i] + 1)) {
                all[i]++;
            }
            all[many] |= all[i] > 12 ? 1 << i : 0;
        }
        return all;
    }

    private long sharesInAll(int aDue) {
        return Arrays.stream(sharesBy(aDue), 0, many).sum();
    }

    long shares() {
        return told(sharesInAll(due), sharesBy(due));
    }

    long fairdue() {
        int best = 0;
        for (int aDue = 0; aDue <= 9; aDue++) {
            best = sharesInAll(aDue) <= 12 ? aDue : best;
        }
        return told(best, sharesInAll(best));
    }

    long ahead(int lodger) {
        if (!has(lodger)) {
            return -1;
        }
        for (int days = 0; days < 99; days++) {
            int then = is.debts[lodger] + (days + 1) * due * (storeys[lodger] + 1);
            if (is.debts[lodger] > 0 || then > 0) {
                return days;
            }
        }
        return 99;
    }

    long changed(int one, int other, int n) {
        if (!has(one) || !has(other) || one == other || n < 1 || n > 60) {
            return -1000;
        }
        int[] by = storeys.clone();
        by[one] = storeys[other];
        by[other] = storeys[one];
        Moment asItIs = is.copy();
        Moment so = is.copy();
        int[] dry = new int[2];
        for (int q = 0; q < n; q++) {
            dry[0] += pass(asItIs, storeys, new int[0]);
            dry[1] += pass(so, by, new int[0]);
        }
        return told(dry[1] - dry[0], dry[0], dry[1]);
    }

    long lasts() {
        Moment m = is.copy();
        for (int q = 0; q < 99; q++) {
            if (pass(m) > 0) {
                return told(q, m.dryBits);
            }
        }
        return -2;
    }

    // ---- two on the wheel

    long pairs(int those) {
        if (!bitsOfSuch(those)) {
            return -1;
        }
        long[] alone = new long[many];
        Arrays.fill(alone, -1);
        List<long[]> all = new ArrayList<>();
        part(those, alone, all);
        long[] best = null;
        for (long[] row : all) {
            int c = best == null ? 1 : Integer.compare(liftBy(row), liftBy(best));
            best = c > 0 || c == 0 && Arrays.compare(row, best) < 0 ? row : best;
        }
        return told(liftBy(best), best);
    }

    private void part(int free, long[] row, List<long[]> all) {
        int[] those = members(free);
        if (those.length < 2) {
            all.add(row);
            return;
        }
        for (int i : those) {
            for (int j : those) {
                if (i < j) {
                    long[] more = row.clone();
                    more[i] = j;
                    more[j] = i;
                    part(free & ~(1 << i) & ~(1 << j), more, all);
                }
            }
        }
    }

    private int liftBy(long[] row) {
        int sum = 0;
        for (int i = 0; i < row.length; i++) {
            sum += row[i] > i ? liftAll(is, i, (int) row[i]) : 0;
        }
        return sum;
    }

    long enough(int v) {
        if (v < 0 || v > 198) {
            return -1;
        }
        List<long[]> those = new ArrayList<>();
        int most = -1;
        for (int i = 0; i < many; i++) {
            for (int j = i + 1; j < many; j++) {
                most = Math.max(most, liftAll(is, i, j));
                if (liftAll(is, i, j) >= v) {
                    those.add(new long[] {i, j});
                }
            }
        }
        return those.isEmpty() ? told(0, most) : told(those.size(), those.get(0)[0], those.get(0)[1], most);
    }

    long step(int lodger) {
        if (!has(lodger)) {
            return -1;
        }
        if (many == 1) {
            return -2;
        }
        int best = lodger == 0 ? 1 : 0;
        for (int i = 0; i < many; i++) {
            best = i != lodger && liftAll(is, lodger, i) > liftAll(is, lodger, best) ? i : best;
        }
        int together = liftAll(is, lodger, best);
        return told(best, together, liftAll(is, lodger) + liftAll(is, best) - together);
    }

    // ---- rents

    long values() {
        String s = taken();
        int p = fault(s, 80, Whole::isValues, Whole::valuesCanGoOn);
        if (p >= 0) {
            return -1 - p;
        }
        String[] rows = s.split("/");
        if (rows.length > many) {
            return -100;
        }
        values = rows;
        return rows.length;
    }

    private int value(int lodger, int storey) {
        return values[lodger].charAt(storey) - '0';
    }

    /** All rows of k numbers 0 .. most, the least first. */
    static List<long[]> allRows(int k, int most) {
        List<long[]> all = new ArrayList<>();
        long[] row = new long[k];
        int at = k - 1;
        while (at >= 0) {
            all.add(row.clone());
            for (at = k - 1; at >= 0 && row[at] == most; at--) {
                row[at] = 0;
            }
            if (at >= 0) {
                row[at]++;
            }
        }
        return all;
    }

    private long worth(long[] storeysOf) {
        long sum = 0;
        for (int i = 0; i < storeysOf.length; i++) {
            sum += value(i, (int) storeysOf[i]);
        }
        return sum;
    }

    private long[] allotted() {
        int k = values.length;
        return allRows(k, k - 1).stream().filter(r -> Arrays.stream(r).distinct().count() == k)
            .reduce((a, b) -> worth(b) > worth(a) ? b : a).orElseThrow();
    }

    long allot() {
        return values.length == 0 ? -2 : told(worth(allotted()), allotted());
    }

    long rents(int n) {
        if (n < 0 || n > 48) {
            return -1;
        }
        if (values.length == 0) {
            return -2;
        }
        long[] homes = allotted();
        List<long[]> such = new ArrayList<>();
        for (long[] rents : allRows(values.length, 12)) {
            if (Arrays.stream(rents).sum() == n && nobodyWishes(homes, rents)) {
                such.add(rents);
            }
        }
        return told(such.size(), such.isEmpty() ? new long[0] : such.get(0));
    }

    private boolean nobodyWishes(long[] homes, long[] rents) {
        for (int i = 0; i < homes.length; i++) {
            for (int s = 0; s < homes.length; s++) {
                if (value(i, s) - rents[s] > value(i, (int) homes[i]) - rents[(int) homes[i]]) {
                    return false;
                }
            }
        }
        return true;
    }

    // ---- each as he likes

    long rests(int one, int other, int n) {
        if (!has(one) || !has(other) || one == other || n < 1 || n > 9) {
            return -1;
        }
        int[][] who = {{}, {one}, {other}, {one, other}};
        int[] first = new int[4];
        int[] second = new int[4];
        for (int way = 0; way < 4; way++) {
            int half = liftAll(is, who[way]) / 2;
            first[way] = half * n - (way == 1 || way == 3 ? turns(who[way]) : 0);
            second[way] = half * n - (way >= 2 ? turns(who[way]) : 0);
        }
        int[] firstElse = {1, 0, 3, 2};
        int[] secondElse = {2, 3, 0, 1};
        int bits = 0;
        row = new long[0];
        for (int way = 3; way >= 0; way--) {
            if (first[firstElse[way]] <= first[way] && second[secondElse[way]] <= second[way]) {
                bits |= 1 << way;
                row = new long[] {first[way], second[way]};
            }
        }
        return bits;
    }

    // ---- the peg, the floor

    long peg(int turns, int weight) {
        if (turns < 0 || turns > 9 || weight < -1 || weight > 18) {
            return -1;
        }
        if (read.size() == 12) {
            return -2;
        }
        read.add(new int[] {turns, weight});
        return read.size();
    }

    long forget() {
        int was = read.size();
        read.clear();
        return was;
    }

    private long[] setsAt(int i) {
        List<Long> sets = new ArrayList<>();
        for (int set = 0; set < 64; set++) {
            int[] who = members(set);
            if (bitsOfSuch(set) && who.length <= 2 && turns(who) == read.get(i)[0]) {
                int heavy = Arrays.stream(who).map(g -> weights[g]).sum();
                if (read.get(i)[1] == -1 || read.get(i)[1] == heavy) {
                    sets.add((long) set);
                }
            }
        }
        return sets.stream().mapToLong(s -> s).toArray();
    }

    long trod() {
        BigInteger all = BigInteger.ONE;
        long some = 0;
        long sure = 0;
        for (int i = 0; i < read.size(); i++) {
            long[] sets = setsAt(i);
            all = all.multiply(BigInteger.valueOf(sets.length));
            some |= Arrays.stream(sets).reduce(0, (a, b) -> a | b);
            sure |= sets.length == 0 ? 0 : Arrays.stream(sets).reduce(63, (a, b) -> a & b);
        }
        long told = all.min(BigInteger.valueOf(1000000)).longValue();
        return told == 0 ? told(0, 0, 0) : told(told, some, sure);
    }

    long ways(int i) {
        if (i < 0 || i >= read.size()) {
            return -1;
        }
        long[] sets = setsAt(i);
        return told(sets.length, Arrays.copyOf(sets, Math.min(10, sets.length)));
    }

    long braked(int those, int v) {
        int[] who = members(those);
        if (!bitsOfSuch(those) || who.length < 1 || who.length > 2 || v < 0 || v > 999) {
            return -1;
        }
        int found = 0;
        long least = -1;
        long sure = 0;
        for (int set = 63; set >= 0; set--) {
            if ((set | those) == those) {
                int lifted = 0;
                for (int i : who) {
                    lifted += (set >> i & 1) == 1 ? 0 : unbraked(i, 0, is.now, who);
                }
                if (Math.min(lifted, is.room) == v) {
                    sure = found == 0 ? set : sure & set;
                    least = set;
                    found++;
                }
            }
        }
        return told(found, least, sure);
    }

    // ---- chances of life, years

    /** Upper and lower number of what one will owe on the mean. */
    private BigInteger[] mean(int lodger, int n, int p) {
        BigInteger ten = BigInteger.TEN;
        BigInteger upper = BigInteger.ZERO;
        for (int i = 0; i < n; i++) {
            BigInteger part = BigInteger.valueOf(due * (storeys[lodger] + 1)).multiply(BigInteger.valueOf(p).pow(i));
            upper = upper.add(part.multiply(ten.pow(n - i)));
        }
        return new BigInteger[] {upper, ten.pow(n)};
    }

    long owes(int lodger, int n, int p) {
        if (!has(lodger) || n < 1 || n > 12 || p < 0 || p > 10) {
            return -1;
        }
        BigInteger[] f = mean(lodger, n, p);
        BigInteger common = f[0].gcd(f[1]);
        return told(0, f[0].divide(common).longValueExact(), f[1].divide(common).longValueExact());
    }

    long fund(int lodger, int n, int p) {
        if (!has(lodger) || n < 1 || n > 12 || p < 0 || p > 10) {
            return -1;
        }
        BigInteger[] f = mean(lodger, n, p);
        BigInteger all = f[0].add(f[1].multiply(BigInteger.valueOf(is.debts[lodger])));
        long turns = 0;
        while (f[1].multiply(BigInteger.valueOf(turns)).compareTo(all) < 0) {
            turns++;
        }
        long quarters = 0;
        while (quarters * paces[lodger] < turns) {
            quarters++;
        }
        return told(turns, quarters);
    }

    long years(int seed, int n) {
        if (n < 1 || n > 20) {
            return -1;
        }
        Moment m = is.copy();
        Arrays.fill(m.dries, 0);
        BigInteger r = BigInteger.valueOf(seed);
        int dry = 0;
        for (int q = 0; q < n * 12; q++) {
            r = r.multiply(BigInteger.valueOf(1103515245)).add(BigInteger.valueOf(12345)).mod(BigInteger.ONE.shiftLeft(32));
            int drawn = r.divide(BigInteger.valueOf(65536)).mod(BigInteger.valueOf(many + 1)).intValue();
            dry += drawn == many ? pass(m) : pass(m, drawn);
        }
        int most = Arrays.stream(m.dries).max().orElseThrow();
        int who = 0;
        while (m.dries[who] < most) {
            who++;
        }
        return told(dry, m.level, most == 0 ? -1 : who, most);
    }

    // ---- kept

    boolean keep(int i) {
        if (i != 0 && i != 1) {
            return false;
        }
        kept[i] = is.copy();
        keptOf[i] = many;
        return true;
    }

    boolean again(int i) {
        if (i != 0 && i != 1 || kept[i] == null || keptOf[i] != many) {
            return false;
        }
        is.becomes(kept[i]);
        undos.clear();
        return true;
    }

    long count(int what) {
        long[] all = {many, is.now, is.now % 12, is.now / 12, is.level, is.room, due, wantsIn(is.now), Arrays.stream(is.dries).sum(),
            read.size(), undos.size(), row.length, text.length()};
        return what < 0 || what >= all.length ? -1 : all[what];
    }
}
