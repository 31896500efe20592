import java.util.Arrays;
import java.util.NoSuchElementException;

/** Rent in turns of the wheel: a house whose lodgers pay by treading the wheel that lifts its water. */
public final class RentByTheWheel {
    public static final int NONE = -1;

    private static final int QUARTERS = 12;
    private static final int MOST_LODGERS = 6;
    private static final int MOST_ROOM = 999;
    private static final int MOST_DUE = 9;
    private static final int KEPT = 2;
    private static final int NOT_SO = -2;
    private static final int MISSING = -3;
    private static final int TOO_FEW_LODGERS = -100;
    private static final int NO_CHANGE = -1000;
    private static final int DAY_SIGNS = 48;
    private static final int LONG_RUN = 60;
    private static final int MOST_WAYS = 1000000;

    private final Text text = new Text();
    private final House lodgers = new House();
    private final Rule law = new Rule(text);
    private final Wheel wheel = new Wheel(lodgers, law);
    private final State state = new State(50);
    /** Questions go by in this one, so that they change nothing and make no objects. */
    private final State trial = new State(MOST_ROOM);
    private final Row told = new Row();
    private final Past past = new Past();
    private final State[] kept = new State[KEPT];
    private final int[] keptWith = new int[KEPT];
    private final Plan plan = new Plan(wheel);
    private final Pairing pairing = new Pairing(wheel, state);
    private final Worths worths = new Worths();
    private final Pegs pegs = new Pegs(lodgers);
    private final int[] exchanged = new int[MOST_LODGERS];

    public RentByTheWheel() {
        for (int i = 0; i < KEPT; i++) {
            kept[i] = new State(MOST_ROOM);
            keptWith[i] = NONE;
        }
    }

    // ---- the house

    public int sign(int v) {
        return text.add(v);
    }

    public boolean end(int n) {
        return text.cut(n);
    }

    public int house() {
        if (text.length == 0) {
            return 0;
        }
        int lines = lodgers.linesOf(text);
        if (lines > 0) {
            lodgers.takeLines(text);
            past.clear();
        }
        text.clear();
        return lines;
    }

    public int rule() {
        int answer = law.read();
        text.clear();
        return answer;
    }

    public int lodger(int lodger, int what) throws NoSuchElementException {
        if (!lodgers.has(lodger)) {
            throw new NoSuchElementException("no such lodger");
        }
        switch (what) {
            case 0: return lodgers.storeys[lodger];
            case 1: return lodgers.paces[lodger];
            case 2: return lodgers.weights[lodger];
            case 3: return lodgers.wantOf(lodger, state.quarterNow());
            case 4: return state.dries[lodger];
            case 5: return lodgers.brakes >> lodger & 1;
            case 6: return lodgers.wantsOfDay(lodger);
            default: throw new NoSuchElementException("nothing such is told of a lodger");
        }
    }

    public int debt(int lodger) throws NoSuchElementException {
        if (!lodgers.has(lodger)) {
            throw new NoSuchElementException("no such lodger");
        }
        return state.debts[lodger];
    }

    public int lifts(int lodger, int other) {
        if (lodger == NONE || !lodgers.canTread(lodger, other)) {
            return NONE;
        }
        told.tellTwo(lodgers.turnsOf(lodger, other), wheel.pailsNow(other, lodger, state));
        return wheel.pailsNow(lodger, other, state);
    }

    public int set(int what, int v) {
        switch (what) {
            case 0: return changeRoom(v);
            case 1: return changeDue(v);
            case 2: return changeLevel(v);
            default: return NONE;
        }
    }

    private int changeRoom(int v) {
        if (v < 1 || v > MOST_ROOM) {
            return NONE;
        }
        int was = state.room;
        state.room = v;
        state.level = Math.min(state.level, v);
        return was;
    }

    private int changeDue(int v) {
        if (v < 0 || v > MOST_DUE) {
            return NONE;
        }
        int was = lodgers.due;
        lodgers.due = v;
        return was;
    }

    private int changeLevel(int v) {
        if (v < 0 || v > state.room) {
            return NONE;
        }
        int was = state.level;
        state.level = v;
        return was;
    }

    public int brake(int lodger, int v) {
        if (!lodgers.has(lodger) || v < 0 || v > 1) {
            return NONE;
        }
        int was = lodgers.brakes >> lodger & 1;
        lodgers.brakes ^= (was ^ v) << lodger;
        return was;
    }

    public int sheet(int kind, int n, int f, int step) {
        if (kind < 0 || kind > 3 || n > MOST_LODGERS) {
            return NONE;
        }
        if (kind < 3 && n < 0) {
            return NOT_SO;
        }
        int sum = 0;
        for (int i = 0; i < lodgers.many; i++) {
            lodgers.paces[i] = kind < 3 && i < n ? paceTold(kind, f + i * step) : 1;
            sum += lodgers.paces[i];
        }
        return kind == 3 ? MISSING : sum;
    }

    private static int paceTold(int kind, int entry) {
        int pace = kind == 0 ? (byte) entry : kind == 1 ? (short) entry : entry;
        return Math.max(1, Math.min(9, pace));
    }

    // ---- quarters

    public int quarter(int lodger, int other) {
        if (!lodgers.canTread(lodger, other)) {
            return NOT_SO;
        }
        past.save(state);
        wheel.pass(state, lodger, other);
        told.tellThree(wheel.lifted, wheel.over, wheel.dryBits);
        return state.level;
    }

    public int day() {
        return readDay(state);
    }

    public int look() {
        return readDay(asked());
    }

    public int undo() {
        return past.takeBack(state) ? past.many : NONE;
    }

    /** A state like the one that is, for a question. */
    private State asked() {
        trial.room = state.room;
        trial.becomes(state);
        return trial;
    }

    private int readDay(State s) {
        int fault = faultOfDay();
        int answer = fault == NONE ? treadDay(s) : -1 - fault;
        text.clear();
        return answer;
    }

    /** Where a sign of a DAY can't stand; NONE if all can. */
    private int faultOfDay() {
        int end = Math.min(text.length, DAY_SIGNS);
        int inside = 0;
        for (int p = 0; p < end; p++) {
            int c = text.at(p);
            boolean letter = c >= 'a' && c <= 'f';
            boolean stands = inside == 0 ? letter || c == '.' || c == '['
                : inside == 1 ? letter
                : inside == 2 ? letter && c != text.at(p - 1)
                : c == ']';
            if (!stands) {
                return p;
            }
            if (inside > 0 || c == '[') {
                inside = (inside + 1) % 4;
            }
        }
        if (text.length > DAY_SIGNS) {
            return DAY_SIGNS;
        }
        return inside == 0 ? NONE : end;
    }

    private int treadDay(State s) {
        int went = 0;
        int dry = 0;
        int over = 0;
        int p = 0;
        while (p < text.length) {
            boolean two = text.at(p) == '[';
            int one = two ? text.at(p + 1) - 'a' : text.at(p) == '.' ? NONE : text.at(p) - 'a';
            int other = two ? text.at(p + 2) - 'a' : NONE;
            p += two ? 4 : 1;
            if (!lodgers.canTread(one, other)) {
                break;
            }
            if (went == 0 && s == state) {
                past.save(s);
            }
            wheel.pass(s, one, other);
            went++;
            dry += wheel.dryTimes;
            over += wheel.over;
        }
        told.tellThree(s.level, dry, over);
        return went;
    }

    // ---- rows of treading

    public int fewest(int those, int n) {
        if (!lodgers.hasAll(those) || n < 1 || n > QUARTERS) {
            return NONE;
        }
        int cost = plan.leastCost(state, those, n, true);
        if (cost >= Plan.NEVER) {
            return NOT_SO;
        }
        plan.tellInto(told, state.level);
        return cost / Plan.TRODDEN;
    }

    public int driest(int those, int n) {
        if (!lodgers.hasAll(those) || n < 1 || n > QUARTERS) {
            return NONE;
        }
        int cost = plan.leastCost(state, those, n, false);
        plan.tellInto(told, state.level);
        return cost / Plan.DRY;
    }

    public int pays(int those) {
        if (!lodgers.hasAll(those)) {
            return NONE;
        }
        for (int k = 0; k <= 40; k++) {
            int sum = 0;
            for (int i = 0; i < lodgers.many; i++) {
                sum += (those >> i & 1) == 0 ? 0 : treadsToPay(i, k);
            }
            if (sum <= k) {
                tellPayers(those, k);
                return k;
            }
        }
        return NOT_SO;
    }

    private void tellPayers(int those, int k) {
        told.clear();
        for (int i = 0; i < lodgers.many; i++) {
            if ((those >> i & 1) == 1) {
                told.add(treadsToPay(i, k));
            }
        }
    }

    /** QUARTERS by which a LODGER has paid, k from now, what it owes then. */
    private int treadsToPay(int lodger, int k) {
        int ends = (state.now + k) / QUARTERS - state.now / QUARTERS;
        int owed = state.debts[lodger] + ends * lodgers.chargeOf(lodger, lodgers.due);
        return lodgers.treadsFor(lodger, owed);
    }

    public int strongest(int those) {
        if (!lodgers.hasAll(those) || those == 0) {
            return NONE;
        }
        int best = NONE;
        int most = NONE;
        for (int i = 0; i < lodgers.many; i++) {
            int pails = (those >> i & 1) == 0 ? NONE : wheel.pailsNow(i, NONE, state);
            if (pails > most) {
                most = pails;
                best = i;
            }
        }
        told.tellOne(most);
        return best;
    }

    public int roomy(int lodger, int n) {
        if (!lodgers.has(lodger) || n < 1 || n > LONG_RUN) {
            return NONE;
        }
        int bound = dryWithRoom(MOST_ROOM, lodger, n, Integer.MAX_VALUE);
        int room = 1;
        int dry = dryWithRoom(room, lodger, n, bound);
        while (room < MOST_ROOM && dry > bound) {
            room++;
            dry = dryWithRoom(room, lodger, n, bound);
        }
        told.tellOne(dry);
        return room;
    }

    /** How often somebody is DRY with a ROOM; more than a bound is not told to its end. */
    private int dryWithRoom(int room, int lodger, int n, int bound) {
        trial.room = room;
        trial.becomes(state);
        int dry = 0;
        for (int q = 0; q < n && dry <= bound; q++) {
            wheel.pass(trial, lodger, NONE);
            dry += wheel.dryTimes;
        }
        return dry;
    }

    public int even(int n) {
        if (n < 1 || n > LONG_RUN) {
            return NONE;
        }
        if (lodgers.many == 0) {
            return NOT_SO;
        }
        State s = asked();
        int dry = 0;
        int idle = 0;
        for (int q = 0; q < n; q++) {
            int one = lodgers.firstGreatest(s.debts);
            if (s.debts[one] <= 0) {
                one = NONE;
                idle++;
            }
            wheel.pass(s, one, NONE);
            dry += wheel.dryTimes;
        }
        told.tellThree(s.level, s.debts[lodgers.firstGreatest(s.debts)], idle);
        return dry;
    }

    public int thirst(int n) {
        if (n < 1 || n > LONG_RUN) {
            return NONE;
        }
        int sum = 0;
        int most = NONE;
        int when = 0;
        for (int i = 0; i < n; i++) {
            int wants = lodgers.wantsIn((state.now + i) % QUARTERS);
            sum += wants;
            if (wants > most) {
                most = wants;
                when = i;
            }
        }
        told.tellTwo(when, most);
        return sum;
    }

    public int bath(int lodger, int v) {
        if (!lodgers.has(lodger) || v < 1 || v > MOST_ROOM) {
            return NONE;
        }
        State s = asked();
        int dry = 0;
        for (int q = 1; q <= LONG_RUN; q++) {
            wheel.pass(s, lodger, NONE);
            dry += wheel.dryTimes;
            if (s.level >= v) {
                told.tellOne(dry);
                return q;
            }
        }
        return NOT_SO;
    }

    public int shares() {
        told.clear();
        int unable = 0;
        for (int i = 0; i < lodgers.many; i++) {
            int treads = lodgers.treadsFor(i, lodgers.chargeOf(i, lodgers.due));
            told.add(treads);
            unable |= treads > QUARTERS ? 1 << i : 0;
        }
        told.add(unable);
        return lodgers.treadsForDue(lodgers.due);
    }

    public int fairdue() {
        for (int due = MOST_DUE; due > 0; due--) {
            int treads = lodgers.treadsForDue(due);
            if (treads <= QUARTERS) {
                told.tellOne(treads);
                return due;
            }
        }
        told.tellOne(0);
        return 0;
    }

    public int ahead(int lodger) {
        if (!lodgers.has(lodger)) {
            return NONE;
        }
        int debt = state.debts[lodger];
        int charge = lodgers.chargeOf(lodger, lodgers.due);
        int days = 0;
        while (days < 99 && debt <= 0 && debt + charge <= 0) {
            debt += charge;
            days++;
        }
        return days;
    }

    public int changed(int one, int other, int n) {
        if (!lodgers.has(one) || !lodgers.has(other) || one == other || n < 1 || n > LONG_RUN) {
            return NO_CHANGE;
        }
        int asItIs = dryByOrder(lodgers.order, n);
        lodgers.orderInto(exchanged, one, other);
        int so = dryByOrder(exchanged, n);
        told.tellTwo(asItIs, so);
        return so - asItIs;
    }

    /** How often somebody is DRY while nobody treads and all take in an order. */
    private int dryByOrder(int[] order, int n) {
        State s = asked();
        int dry = 0;
        for (int q = 0; q < n; q++) {
            wheel.take(s, order);
            s.now++;
            dry += wheel.dryTimes;
        }
        return dry;
    }

    public int lasts() {
        State s = asked();
        for (int q = 0; q < 99; q++) {
            wheel.pass(s, NONE, NONE);
            if (wheel.dryBits != 0) {
                told.tellOne(wheel.dryBits);
                return q;
            }
        }
        return NOT_SO;
    }

    // ---- two on the wheel

    public int pairs(int those) {
        if (!lodgers.hasAll(those)) {
            return NONE;
        }
        pairing.partAll(those);
        told.clear();
        for (int i = 0; i < lodgers.many; i++) {
            told.add(pairing.best[i]);
        }
        return pairing.most;
    }

    public int enough(int v) {
        if (v < 0 || v > 198) {
            return NONE;
        }
        int found = 0;
        int most = NONE;
        told.clear();
        for (int one = 0; one < lodgers.many; one++) {
            for (int other = one + 1; other < lodgers.many; other++) {
                int pails = wheel.together(one, other, state);
                most = Math.max(most, pails);
                if (pails >= v) {
                    found++;
                    if (found == 1) {
                        told.tellTwo(one, other);
                    }
                }
            }
        }
        told.add(most);
        return found;
    }

    public int step(int lodger) {
        if (!lodgers.has(lodger)) {
            return NONE;
        }
        int best = NONE;
        int most = NONE;
        for (int other = 0; other < lodgers.many; other++) {
            int pails = other == lodger ? NONE : wheel.together(lodger, other, state);
            if (pails > most) {
                most = pails;
                best = other;
            }
        }
        if (best == NONE) {
            return NOT_SO;
        }
        int alone = wheel.pailsNow(lodger, NONE, state) + wheel.pailsNow(best, NONE, state);
        told.tellTwo(most, alone - most);
        return best;
    }

    // ---- rents

    public int values() {
        int k = worths.sizeOf(text);
        int answer = k;
        if (k > lodgers.many) {
            answer = TOO_FEW_LODGERS;
        } else if (k > 0) {
            worths.takeDigits(text, k);
        }
        text.clear();
        return answer;
    }

    public int allot() {
        if (worths.k == 0) {
            return NOT_SO;
        }
        worths.allotAll();
        worths.tellInto(told, worths.best);
        return worths.most;
    }

    public int rents(int n) {
        if (n < 0 || n > 48) {
            return NONE;
        }
        if (worths.k == 0) {
            return NOT_SO;
        }
        int rows = worths.countRents(n);
        told.clear();
        if (rows > 0) {
            worths.tellInto(told, worths.leastRents);
        }
        return rows;
    }

    // ---- each as he likes

    public int rests(int one, int other, int n) {
        if (other == NONE || one == NONE || !lodgers.canTread(one, other) || n < 1 || n > 9) {
            return NONE;
        }
        int ways = 0;
        told.clear();
        for (int way = 0; way < 4; way++) {
            int first = gain(one, other, way, n);
            int second = gain(other, one, mirrored(way), n);
            boolean content = gain(one, other, way ^ 1, n) <= first
                && gain(other, one, mirrored(way) ^ 1, n) <= second;
            if (content) {
                if (ways == 0) {
                    told.tellTwo(first, second);
                }
                ways |= 1 << way;
            }
        }
        return ways;
    }

    /** A way as the other of the two sees it: bit 0 is always the one who is asked. */
    private static int mirrored(int way) {
        return (way & 1) << 1 | way >> 1;
    }

    private int gain(int self, int mate, int way, int n) {
        int one = (way & 1) == 1 ? self : NONE;
        int other = (way & 2) == 2 ? mate : NONE;
        int half = wheel.together(one, other, state) / 2;
        return half * n - (one == NONE ? 0 : lodgers.turnsOf(one, other));
    }

    // ---- the peg, the floor

    public int peg(int turns, int weight) {
        if (turns < 0 || turns > 9 || weight < NONE || weight > 18) {
            return NONE;
        }
        return pegs.add(turns, weight) ? pegs.many : NOT_SO;
    }

    public int forget() {
        int was = pegs.many;
        pegs.many = 0;
        return was;
    }

    public int trod() {
        int product = 1;
        int some = 0;
        int sure = 0;
        for (int i = 0; i < pegs.many; i++) {
            int ways = pegs.findSets(i);
            product = Math.min(MOST_WAYS, product * ways);
            some |= pegs.inSome();
            sure |= pegs.inAll();
        }
        told.tellTwo(product == 0 ? 0 : some, product == 0 ? 0 : sure);
        return product;
    }

    public int ways(int i) {
        if (i < 0 || i >= pegs.many) {
            return NONE;
        }
        int ways = pegs.findSets(i);
        told.clear();
        for (int j = 0; j < ways && j < 10; j++) {
            told.add(pegs.sets[j]);
        }
        return ways;
    }

    public int braked(int those, int v) {
        int many = lodgers.hasAll(those) ? Integer.bitCount(those) : 0;
        if (many < 1 || many > 2 || v < 0 || v > MOST_ROOM) {
            return NONE;
        }
        int one = lodgers.firstOf(those);
        int other = lodgers.firstOf(those ^ 1 << one);
        int found = 0;
        int least = NONE;
        int sure = those;
        for (int set = 0; set <= those; set++) {
            if ((set & ~those) == 0 && levelWithout(set, one, other) == v) {
                least = found == 0 ? set : least;
                sure &= set;
                found++;
            }
        }
        told.tellTwo(least, found == 0 ? 0 : sure);
        return found;
    }

    /** LEVEL behind a QUARTER in which one or two trod into an empty CISTERN, a set of them braking. */
    private int levelWithout(int set, int one, int other) {
        int quarter = state.quarterNow();
        int sum = wheel.pails(one, other, 0, quarter, set) + wheel.pails(other, one, 0, quarter, set);
        return Math.min(sum, state.room);
    }

    // ---- chances of life, years

    public int owes(int lodger, int n, int p) {
        if (!canLive(lodger, n, p)) {
            return NONE;
        }
        long upper = meanTimes(lodger, n, p);
        long lower = tenTo(n - 1);
        long common = commonDivisor(upper, lower);
        if (common < 1) {
            common = 1;
        }
        told.tellTwo(upper / common, lower / common);
        return 0;
    }

    public int fund(int lodger, int n, int p) {
        if (!canLive(lodger, n, p)) {
            return NONE;
        }
        long lower = tenTo(n - 1);
        long upper = meanTimes(lodger, n, p) + state.debts[lodger] * lower;
        int turns = (int) House.quotientUp(upper, lower);
        told.tellOne(lodgers.treadsFor(lodger, turns));
        return turns;
    }

    private boolean canLive(int lodger, int n, int p) {
        return lodgers.has(lodger) && n >= 1 && n <= 12 && p >= 0 && p <= 10;
    }

    /** What one will owe on the mean in n DAYS, times 10 to the power n - 1, so that it is whole. */
    private long meanTimes(int lodger, int n, int p) {
        long part = lodgers.chargeOf(lodger, lodgers.due);
        long sum = part;
        for (int i = 1; i < n; i++) {
            part *= p;
            sum = sum * 10 + part;
        }
        return sum;
    }

    private static long tenTo(int power) {
        long x = 1;
        for (int i = 0; i < power; i++) {
            x *= 10;
        }
        return x;
    }

    private static long commonDivisor(long a, long b) {
        // Euclid's steps for numbers below 2 to the power 63 are fewer than a hundred
        for (int i = 0; i < 100 && b != 0; i++) {
            long rest = a % b;
            a = b;
            b = rest;
        }
        return a;
    }

    public int years(int seed, int n) {
        if (n < 1 || n > 20) {
            return NONE;
        }
        State s = asked();
        Arrays.fill(s.dries, 0);
        int draws = lodgers.many + 1;
        int r = seed;
        int dry = 0;
        for (int q = 0; q < n * QUARTERS; q++) {
            r = r * 1103515245 + 12345;
            int drawn = draws < 1 ? 0 : (r >>> 16) % draws;
            wheel.pass(s, drawn < lodgers.many ? drawn : NONE, NONE);
            dry += wheel.dryTimes;
        }
        int who = dry == 0 ? NONE : lodgers.firstGreatest(s.dries);
        told.tellThree(s.level, who, lodgers.has(who) ? s.dries[who] : 0);
        return dry;
    }

    // ---- kept

    public boolean keep(int i) {
        if (i < 0 || i >= KEPT) {
            return false;
        }
        kept[i].becomes(state);
        keptWith[i] = lodgers.many;
        return true;
    }

    public boolean again(int i) {
        if (i < 0 || i >= KEPT || keptWith[i] != lodgers.many) {
            return false;
        }
        state.becomes(kept[i]);
        past.clear();
        return true;
    }

    public int count(int what) {
        switch (what) {
            case 0: return lodgers.many;
            case 1: return state.now;
            case 2: return state.quarterNow();
            case 3: return state.now / QUARTERS;
            case 4: return state.level;
            case 5: return state.room;
            case 6: return lodgers.due;
            case 7: return lodgers.wantsIn(state.quarterNow());
            case 8: return state.dryInAll();
            case 9: return pegs.many;
            case 10: return past.many;
            case 11: return told.many;
            case 12: return text.length;
            default: return NONE;
        }
    }

    public long row(int i) throws NoSuchElementException {
        if (i < 0 || i >= told.many) {
            throw new NoSuchElementException("no such number of the row");
        }
        return told.numbers[i];
    }

    /** THE TEXT: signs 0 .. 255 that come by sign() till a call reads and empties it. */
    private static final class Text {
        static final int MOST = 80;
        static final int NO_SIGN = -1;

        final int[] signs = new int[MOST];
        int length;

        int at(int p) {
            return p >= 0 && p < length ? signs[p] : NO_SIGN;
        }

        int add(int v) {
            if (length + 4 > MOST) {
                return NONE;
            }
            for (int shift = 24; shift >= 0; shift -= 8) {
                signs[length] = v >>> shift & 255;
                length++;
            }
            return length;
        }

        boolean cut(int n) {
            if (n < 0 || n > length) {
                return false;
            }
            length = n;
            return true;
        }

        void clear() {
            length = 0;
        }

        static boolean isDigit(int c) {
            return c >= '0' && c <= '9';
        }
    }

    /** The ROW: numbers told last. */
    private static final class Row {
        final long[] numbers = new long[QUARTERS];
        int many;

        void clear() {
            many = 0;
        }

        void add(long number) {
            if (many < numbers.length) {
                numbers[many] = number;
                many++;
            }
        }

        void tellOne(long a) {
            clear();
            add(a);
        }

        void tellTwo(long a, long b) {
            tellOne(a);
            add(b);
        }

        void tellThree(long a, long b, long c) {
            tellTwo(a, b);
            add(c);
        }
    }

    /** What goes by, and is undone or kept: NOW, LEVEL, DEBTS, DRY; its ROOM stays its own. */
    private static final class State {
        int now;
        int level;
        int room;
        final int[] debts = new int[MOST_LODGERS];
        final int[] dries = new int[MOST_LODGERS];

        State(int room) {
            this.room = room;
        }

        void becomes(State other) {
            now = other.now;
            level = Math.min(other.level, room);
            for (int i = 0; i < MOST_LODGERS; i++) {
                debts[i] = other.debts[i];
                dries[i] = other.dries[i];
            }
        }

        int quarterNow() {
            return now % QUARTERS;
        }

        int dryInAll() {
            int sum = 0;
            for (int i = 0; i < MOST_LODGERS; i++) {
                sum += dries[i];
            }
            return sum;
        }
    }

    /** The LODGERS and what they owe by. */
    private static final class House {
        static final int MOST_SIGNS = 76;
        static final int WANTS_COLUMN = 4;
        static final int STOREYS = 6;

        int many;
        int due = 2;
        /** LODGERS (bits) that BRAKE. */
        int brakes;
        final int[] storeys = new int[MOST_LODGERS];
        final int[] paces = new int[MOST_LODGERS];
        final int[] weights = new int[MOST_LODGERS];
        final int[] wants = new int[MOST_LODGERS * QUARTERS];
        final int[] wantDigits = new int[MOST_LODGERS];
        /** LODGERS as they take water: by STOREYS from 0 up, in one by numbers. */
        final int[] order = new int[MOST_LODGERS];

        boolean has(int lodger) {
            return lodger >= 0 && lodger < many;
        }

        boolean hasAll(int those) {
            return those >= 0 && those < 1 << many;
        }

        /** Nobody, one, or two unlike ones. */
        boolean canTread(int one, int other) {
            if (one == NONE) {
                return other == NONE;
            }
            return has(one) && one != other && (other == NONE || has(other));
        }

        int linesOf(Text text) {
            int end = Math.min(text.length, MOST_SIGNS);
            int column = 0;
            int lines = 1;
            for (int p = 0; p < end; p++) {
                int c = text.at(p);
                if (!fits(column, c) || many + lines > MOST_LODGERS) {
                    return -1 - p;
                }
                column++;
                if (c == ';') {
                    column = 0;
                    lines++;
                }
            }
            if (text.length > MOST_SIGNS) {
                return -1 - MOST_SIGNS;
            }
            return column > WANTS_COLUMN ? lines : -1 - end;
        }

        static boolean fits(int column, int c) {
            switch (column) {
                case 0: return c >= '0' && c < '0' + STOREYS;
                case 1: return c >= '1' && c <= '9';
                case 2: return c >= '1' && c <= '9';
                case 3: return c == ':';
                case WANTS_COLUMN: return Text.isDigit(c);
                default: return c == ';' || column < WANTS_COLUMN + QUARTERS && Text.isDigit(c);
            }
        }

        /** Only behind linesOf(), which has found that all of it can come. */
        void takeLines(Text text) {
            int column = 0;
            for (int p = 0; p < text.length && many < MOST_LODGERS; p++) {
                int c = text.at(p);
                if (c == ';') {
                    many++;
                    column = 0;
                } else {
                    takeDigit(column, c - '0');
                    column++;
                }
            }
            many = Math.min(many + 1, MOST_LODGERS);
            orderInto(order, NONE, NONE);
        }

        void takeDigit(int column, int digit) {
            int place = column - WANTS_COLUMN;
            if (column == 0) {
                storeys[many] = digit;
            } else if (column == 1) {
                paces[many] = digit;
            } else if (column == 2) {
                weights[many] = digit;
            } else if (place >= 0 && place < QUARTERS) {
                wants[many * QUARTERS + place] = digit;
                wantDigits[many] = place + 1;
            }
        }

        /** The order in which water is taken, if two (or NONE, NONE) had changed STOREYS. */
        void orderInto(int[] into, int one, int other) {
            int place = 0;
            for (int storey = 0; storey < STOREYS; storey++) {
                for (int i = 0; i < many; i++) {
                    int home = i == one ? other : i == other ? one : i;
                    if (storeys[home] == storey && place < into.length) {
                        into[place] = i;
                        place++;
                    }
                }
            }
        }

        int wantOf(int lodger, int quarter) {
            int digits = has(lodger) ? wantDigits[lodger] : 0;
            return digits < 1 || quarter < 0 ? 0 : wants[lodger * QUARTERS + quarter % digits];
        }

        int wantsOfDay(int lodger) {
            int sum = 0;
            for (int q = 0; q < QUARTERS; q++) {
                sum += wantOf(lodger, q);
            }
            return sum;
        }

        int wantsIn(int quarter) {
            int sum = 0;
            for (int i = 0; i < many; i++) {
                sum += wantOf(i, quarter);
            }
            return sum;
        }

        int turnsOf(int one, int other) {
            int first = has(one) ? paces[one] : 0;
            return has(other) ? Math.min(first, paces[other]) : first;
        }

        int chargeOf(int lodger, int byDue) {
            return byDue * (storeys[lodger] + 1);
        }

        /** a by b, begun ones too; 0 for what is not above 0. */
        static long quotientUp(long a, long b) {
            return a <= 0 || b <= 0 ? 0 : (a + b - 1) / b;
        }

        /** QUARTERS alone by which one treads so many TURNS, begun ones too. */
        int treadsFor(int lodger, int turns) {
            return (int) quotientUp(turns, paces[lodger]);
        }

        int treadsForDue(int byDue) {
            int sum = 0;
            for (int i = 0; i < many; i++) {
                sum += treadsFor(i, chargeOf(i, byDue));
            }
            return sum;
        }

        /** The first LODGER of a set; NONE if it has none. */
        int firstOf(int set) {
            for (int i = 0; i < many; i++) {
                if ((set >> i & 1) == 1) {
                    return i;
                }
            }
            return NONE;
        }

        /** The first LODGER that has the most of something; 0 if there are none. */
        int firstGreatest(int[] numbers) {
            int best = 0;
            for (int i = 1; i < many; i++) {
                if (numbers[i] > numbers[best]) {
                    best = i;
                }
            }
            return best;
        }
    }

    /** THE RULE, held as things and signs in the order in which they are reckoned. */
    private static final class Rule {
        static final int MOST_SIGNS = 40;
        static final int MOST_DEPTH = 4;
        static final int MOST_PAILS = 99;
        static final String NAMES = "tpwlnqy";
        static final int NAME = 1000;
        static final int SIGN = 2000;
        static final int NEGATE = SIGN + '~';

        final int[] code = new int[MOST_SIGNS];
        int length;
        /** What the names stand for, in the order of NAMES. */
        final int[] things = new int[NAMES.length()];
        private final Text text;
        private final int[] stack = new int[MOST_SIGNS];
        /** What is read of THE TEXT: a refused one leaves the code as it was. */
        private final int[] draft = new int[MOST_SIGNS];
        private int drafted;
        private int at;

        Rule(Text text) {
            this.text = text;
        }

        int read() {
            at = 0;
            drafted = 0;
            boolean whole = text.length == 0 || expression(0) && at >= Math.min(text.length, MOST_SIGNS);
            if (!whole || text.length > MOST_SIGNS) {
                return -1 - at;
            }
            System.arraycopy(draft, 0, code, 0, drafted);
            length = drafted;
            return 0;
        }

        private int here() {
            return at < MOST_SIGNS ? text.at(at) : Text.NO_SIGN;
        }

        private void emit(int c) {
            if (drafted < draft.length) {
                draft[drafted] = c;
                drafted++;
            }
        }

        private boolean expression(int depth) {
            if (!sum(depth)) {
                return false;
            }
            int c = here();
            if (c != '<' && c != '>' && c != '=') {
                return true;
            }
            at++;
            if (!sum(depth)) {
                return false;
            }
            emit(SIGN + c);
            return true;
        }

        private boolean sum(int depth) {
            boolean stands = product(depth);
            for (int i = 0; i < MOST_SIGNS && stands && (here() == '+' || here() == '-'); i++) {
                int c = here();
                at++;
                stands = product(depth);
                emit(SIGN + c);
            }
            return stands;
        }

        private boolean product(int depth) {
            boolean stands = negated(depth);
            for (int i = 0; i < MOST_SIGNS && stands && (here() == '*' || here() == '/'); i++) {
                int c = here();
                at++;
                stands = negated(depth);
                emit(SIGN + c);
            }
            return stands;
        }

        private boolean negated(int depth) {
            boolean odd = false;
            for (int i = 0; i < MOST_SIGNS && here() == '-'; i++) {
                at++;
                odd = !odd;
            }
            boolean stands = thing(depth);
            if (odd) {
                emit(NEGATE);
            }
            return stands;
        }

        private boolean thing(int depth) {
            int c = here();
            if (Text.isDigit(c)) {
                number();
                return true;
            }
            if (c == '(' && depth < MOST_DEPTH) {
                at++;
                if (!expression(depth + 1) || here() != ')') {
                    return false;
                }
                at++;
                return true;
            }
            int name = c < 0 ? -1 : NAMES.indexOf((char) c);
            if (name < 0) {
                return false;
            }
            emit(NAME + name);
            at++;
            return true;
        }

        private void number() {
            int value = 0;
            for (int i = 0; i < 3 && Text.isDigit(here()); i++) {
                value = value * 10 + here() - '0';
                at++;
            }
            emit(value);
        }

        /** Pails by what the names stand for now. */
        int reckoned() {
            int top = 0;
            for (int i = 0; i < length; i++) {
                int c = code[i];
                if (c < SIGN && top < stack.length) {
                    stack[top] = c < NAME || c - NAME >= things.length ? c : things[c - NAME];
                    top++;
                } else if (c == NEGATE && top > 0) {
                    stack[top - 1] = -stack[top - 1];
                } else if (c > SIGN && top > 1) {
                    top--;
                    stack[top - 1] = joined(c - SIGN, stack[top - 1], stack[top]);
                }
            }
            int pails = length == 0 ? things[0] * (things[2] + 1) / 4 : stack[0];
            return Math.max(0, Math.min(MOST_PAILS, pails));
        }

        private static int joined(int sign, int a, int b) {
            switch (sign) {
                case '+': return a + b;
                case '-': return a - b;
                case '*': return a * b;
                case '/': return b == 0 ? 0 : a / b;
                case '<': return a < b ? 1 : 0;
                case '>': return a > b ? 1 : 0;
                default: return a == b ? 1 : 0;
            }
        }
    }

    /** THE WHEEL: what is lifted, and how a QUARTER goes by. */
    private static final class Wheel {
        final House house;
        final Rule rule;
        /** Of the QUARTER that went by last. */
        int lifted;
        int over;
        int dryBits;
        int dryTimes;

        Wheel(House house, Rule rule) {
            this.house = house;
            this.rule = rule;
        }

        /** Pails that one lifts, with another or NONE, if a set of LODGERS brakes; none for nobody. */
        int pails(int one, int other, int level, int quarter, int braking) {
            if (!house.has(one) || (braking >> one & 1) == 1) {
                return 0;
            }
            int[] things = rule.things;
            things[0] = house.turnsOf(one, other);
            things[1] = house.paces[one];
            things[2] = house.weights[one];
            things[3] = level;
            things[4] = other == NONE ? 1 : 2;
            things[5] = quarter;
            things[6] = house.storeys[one];
            return rule.reckoned();
        }

        int pailsNow(int one, int other, State s) {
            return pails(one, other, s.level, s.quarterNow(), house.brakes);
        }

        int together(int one, int other, State s) {
            return pailsNow(one, other, s) + pailsNow(other, one, s);
        }

        void pass(State s, int one, int other) {
            int quarter = s.quarterNow();
            lifted = pails(one, other, s.level, quarter, house.brakes)
                + pails(other, one, s.level, quarter, house.brakes);
            over = Math.max(0, s.level + lifted - s.room);
            s.level += lifted - over;
            int turns = house.turnsOf(one, other);
            if (house.has(one)) {
                s.debts[one] -= turns;
            }
            if (house.has(other)) {
                s.debts[other] -= turns;
            }
            take(s, house.order);
            s.now++;
            if (s.quarterNow() == 0) {
                for (int i = 0; i < house.many; i++) {
                    s.debts[i] += house.chargeOf(i, house.due);
                }
            }
        }

        /** All take their WANTS, in an order. */
        void take(State s, int[] order) {
            int quarter = s.quarterNow();
            dryBits = 0;
            dryTimes = 0;
            for (int i = 0; i < house.many; i++) {
                int lodger = order[i];
                int want = house.wantOf(lodger, quarter);
                if (s.level >= want) {
                    s.level -= want;
                } else {
                    s.dries[lodger]++;
                    dryBits |= 1 << lodger;
                    dryTimes++;
                }
            }
        }
    }

    /** What can be undone: states ahead of the latest calls, the oldest overwritten first. */
    private static final class Past {
        static final int MOST = 12;

        final State[] states = new State[MOST];
        int many;
        private int next;

        Past() {
            for (int i = 0; i < MOST; i++) {
                states[i] = new State(MOST_ROOM);
            }
        }

        void save(State s) {
            states[next].becomes(s);
            next = (next + 1) % MOST;
            many = Math.min(many + 1, MOST);
        }

        boolean takeBack(State s) {
            if (many == 0) {
                return false;
            }
            next = (next + MOST - 1) % MOST;
            many--;
            s.becomes(states[next]);
            return true;
        }

        void clear() {
            many = 0;
        }
    }

    /**
     * Rows of treading, the best by costs that add up: what comes behind a QUARTER depends on
     * LEVEL alone, so the least cost from each LEVEL of each QUARTER is found once.
     */
    private static final class Plan {
        static final int NEVER = 1000000;
        /** A QUARTER trodden outweighs any LEVEL at the end, where nobody may be DRY. */
        static final int TRODDEN = MOST_ROOM + 1;
        /** One DRY outweighs all QUARTERS trodden, where somebody may be. */
        static final int DRY = QUARTERS + 1;
        static final int UNKNOWN = -1;

        final Wheel wheel;
        private final State trial = new State(MOST_ROOM);
        /** Made by the first question: an object that asks none should be small. */
        private int[] costs = new int[0];
        private int start;
        private int those;
        private int n;
        private boolean nobodyDry;

        Plan(Wheel wheel) {
            this.wheel = wheel;
        }

        int leastCost(State from, int byThose, int quarters, boolean nobodyMayBeDry) {
            if (costs.length == 0) {
                costs = new int[QUARTERS * (MOST_ROOM + 1)];
            }
            start = from.now;
            those = byThose;
            n = quarters;
            nobodyDry = nobodyMayBeDry;
            trial.room = from.room;
            for (int place = 0; place < n * (from.room + 1) && place < costs.length; place++) {
                costs[place] = UNKNOWN;
            }
            return leastFrom(0, from.level);
        }

        private int leastFrom(int i, int level) {
            if (i >= n) {
                return nobodyDry ? MOST_ROOM - level : 0;
            }
            int place = i * (trial.room + 1) + level;
            if (place < 0 || place >= costs.length) {
                return NEVER;
            }
            if (costs[place] == UNKNOWN) {
                int least = costOf(i, level, NONE);
                // treading costs something by itself: it need not be tried where nobody costs no more than that
                int treading = nobodyDry ? TRODDEN : 1;
                for (int who = 0; who < MOST_LODGERS && least > treading; who++) {
                    least = Math.min(least, costOf(i, level, who));
                }
                costs[place] = least;
            }
            return costs[place];
        }

        private int costOf(int i, int level, int who) {
            if (who != NONE && (those >> who & 1) == 0) {
                return NEVER;
            }
            trial.now = start + i;
            trial.level = level;
            wheel.pass(trial, who, NONE);
            if (nobodyDry && wheel.dryTimes > 0) {
                return NEVER;
            }
            int trodden = who == NONE ? 0 : 1;
            int cost = nobodyDry ? trodden * TRODDEN : wheel.dryTimes * DRY + trodden;
            return Math.min(NEVER, cost + leastFrom(i + 1, trial.level));
        }

        /** The least row of those whose cost is the least; only behind leastCost(). */
        void tellInto(Row row, int level) {
            row.clear();
            for (int i = 0; i < n; i++) {
                int least = leastFrom(i, level);
                int who = NONE;
                while (who < MOST_LODGERS - 1 && costOf(i, level, who) != least) {
                    who++;
                }
                row.add(who);
                level = levelBehind(i, level, who);
            }
        }

        private int levelBehind(int i, int level, int who) {
            trial.now = start + i;
            trial.level = level;
            wheel.pass(trial, who, NONE);
            return trial.level;
        }
    }

    /** Pairs that lift the most; all ways are tried in the order of their rows, so the first best has the least. */
    private static final class Pairing {
        final Wheel wheel;
        final int[] best = new int[MOST_LODGERS];
        int most;
        private final State state;
        private final int[] mates = new int[MOST_LODGERS];

        Pairing(Wheel wheel, State state) {
            this.wheel = wheel;
            this.state = state;
        }

        void partAll(int those) {
            most = NONE;
            Arrays.fill(mates, NONE);
            Arrays.fill(best, NONE);
            part(those, 0, 0);
        }

        private void part(int free, int sum, int depth) {
            int one = wheel.house.firstOf(free);
            if (one == NONE || depth >= MOST_LODGERS) {
                if (sum > most) {
                    most = sum;
                    System.arraycopy(mates, 0, best, 0, MOST_LODGERS);
                }
                return;
            }
            int rest = free ^ 1 << one;
            if ((Integer.bitCount(free) & 1) == 1) {
                part(rest, sum, depth + 1);
            }
            for (int other = one + 1; other < MOST_LODGERS; other++) {
                if ((rest >> other & 1) == 1) {
                    mates[one] = other;
                    mates[other] = one;
                    part(rest ^ 1 << other, sum + wheel.together(one, other, state), depth + 1);
                    mates[one] = NONE;
                    mates[other] = NONE;
                }
            }
        }
    }

    /** VALUES of STOREYS, who should have which, and RENTS by which nobody wishes another's. */
    private static final class Worths {
        static final int LEAST_SIZE = 2;
        static final int MOST_SIZE = 4;
        static final int MOST_RENT = 12;

        /** How many STOREYS; 0: no VALUES were told. */
        int k;
        int most;
        final int[] best = new int[MOST_SIZE];
        final int[] leastRents = new int[MOST_SIZE];
        private final int[] digits = new int[MOST_SIZE * MOST_SIZE];
        private final int[] tried = new int[MOST_SIZE];
        private final int[] asked = new int[MOST_SIZE];
        private int found;

        /** How many rows THE TEXT has, or -1 - p. */
        int sizeOf(Text text) {
            int size = 0;
            int rows = 0;
            int column = 0;
            for (int p = 0; p < text.length; p++) {
                int c = text.at(p);
                int wide = size == 0 ? MOST_SIZE : size;
                if (Text.isDigit(c) && column < wide) {
                    column++;
                } else if (c == '/' && (size == 0 ? column >= LEAST_SIZE : column == size && rows < size - 1)) {
                    size = column;
                    rows++;
                    column = 0;
                } else {
                    return -1 - p;
                }
            }
            return size > 0 && rows == size - 1 && column == size ? size : -1 - text.length;
        }

        /** Only behind sizeOf(). */
        void takeDigits(Text text, int size) {
            k = size;
            int place = 0;
            for (int p = 0; p < text.length; p++) {
                if (Text.isDigit(text.at(p)) && place < digits.length) {
                    digits[place] = text.at(p) - '0';
                    place++;
                }
            }
        }

        private int worth(int lodger, int storey) {
            int place = lodger * k + storey;
            return place >= 0 && place < digits.length ? digits[place] : 0;
        }

        void tellInto(Row row, int[] numbers) {
            row.clear();
            for (int i = 0; i < k; i++) {
                row.add(numbers[i]);
            }
        }

        void allotAll() {
            most = NONE;
            place(0, 0, 0);
        }

        /** Rows rise as they are tried: the first best one is the least. */
        private void place(int lodger, int used, int sum) {
            if (lodger >= k) {
                if (sum > most) {
                    most = sum;
                    System.arraycopy(tried, 0, best, 0, k);
                }
                return;
            }
            for (int storey = 0; storey < k; storey++) {
                if ((used >> storey & 1) == 0) {
                    tried[lodger] = storey;
                    place(lodger + 1, used | 1 << storey, sum + worth(lodger, storey));
                }
            }
        }

        /** Rows of RENTS, n in all, by which nobody wishes another's. */
        int countRents(int n) {
            allotAll();
            found = 0;
            share(0, n);
            return found;
        }

        /** RENTS of STOREYS from one on, so much for them in all. */
        private void share(int storey, int left) {
            if (storey >= k) {
                if (left == 0 && nobodyEnvies()) {
                    if (found == 0) {
                        System.arraycopy(asked, 0, leastRents, 0, k);
                    }
                    found++;
                }
                return;
            }
            // what the STOREYS behind this one can't bear must be borne by it
            int least = Math.max(0, left - MOST_RENT * (k - 1 - storey));
            for (int rent = least; rent <= MOST_RENT && rent <= left; rent++) {
                asked[storey] = rent;
                share(storey + 1, left - rent);
            }
        }

        private boolean nobodyEnvies() {
            for (int lodger = 0; lodger < k; lodger++) {
                int own = worth(lodger, best[lodger]) - asked[best[lodger]];
                for (int storey = 0; storey < k; storey++) {
                    if (worth(lodger, storey) - asked[storey] > own) {
                        return false;
                    }
                }
            }
            return true;
        }
    }

    /** What was read of the peg and the floor. */
    private static final class Pegs {
        static final int MOST = 12;
        /** Nobody, 6 alone, 15 pairs. */
        static final int MOST_SETS = 22;

        final House house;
        int many;
        final int[] sets = new int[MOST_SETS];
        private int found;
        private final int[] turns = new int[MOST];
        private final int[] weights = new int[MOST];

        Pegs(House house) {
            this.house = house;
        }

        boolean add(int turnsRead, int weightRead) {
            if (many >= MOST) {
                return false;
            }
            turns[many] = turnsRead;
            weights[many] = weightRead;
            many++;
            return true;
        }

        /** Finds the sets that can have been on THE WHEEL at a reading: how many. */
        int findSets(int reading) {
            found = 0;
            for (int set = 0; set < 1 << house.many; set++) {
                if (Integer.bitCount(set) <= 2 && found < MOST_SETS && agrees(set, reading)) {
                    sets[found] = set;
                    found++;
                }
            }
            return found;
        }

        private boolean agrees(int set, int reading) {
            int slowest = 0;
            int weight = 0;
            for (int i = 0; i < house.many; i++) {
                if ((set >> i & 1) == 1) {
                    slowest = slowest == 0 ? house.paces[i] : Math.min(slowest, house.paces[i]);
                    weight += house.weights[i];
                }
            }
            return slowest == turns[reading] && (weights[reading] == NONE || weights[reading] == weight);
        }

        /** LODGERS in some set that was found. */
        int inSome() {
            int bits = 0;
            for (int j = 0; j < found; j++) {
                bits |= sets[j];
            }
            return bits;
        }

        /** LODGERS in all sets that were found. */
        int inAll() {
            int bits = found == 0 ? 0 : sets[0];
            for (int j = 1; j < found; j++) {
                bits &= sets[j];
            }
            return bits;
        }
    }
}
