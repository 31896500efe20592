import java.util.ArrayList;
import java.util.List;
import java.util.Random;

/** Random houses, rules and states: what the class answers is what the plain model finds. */
public final class ModelTest {
    private static final Random R = new Random(20261118);

    public static void main(String[] args) {
        for (int run = 0; run < 400; run++) {
            RentByTheWheel x = new RentByTheWheel();
            Model m = Model.random(R, x, 6);
            for (int turn = 0; turn < 6; turn++) {
                change(x, m);
                questions(x, m);
            }
        }
        for (int run = 0; run < 400; run++) {
            RentByTheWheel x = new RentByTheWheel();
            Model m = Model.random(R, x, 6);
            change(x, m);
            rows(x, m);
        }
        Check.end();
    }

    private static void change(RentByTheWheel x, Model m) {
        m.room = 1 + R.nextInt(R.nextBoolean() ? 20 : 300);
        m.level = R.nextInt(m.room + 1);
        m.due = R.nextInt(10);
        x.set(0, m.room);
        x.set(1, m.due);
        x.set(2, m.level);
        for (int g = 0; g < m.lodgers.size(); g++) {
            m.lodgers.get(g).brakes = R.nextInt(6) == 0;
            x.brake(g, m.lodgers.get(g).brakes ? 1 : 0);
        }
        for (int i = R.nextInt(9); i > 0; i--) {
            int one = R.nextInt(m.lodgers.size() + 1) - 1;
            int other = one < 1 ? -1 : R.nextInt(one + 1) - 1;
            other = other == one ? -1 : other;
            int[] who = one == -1 ? new int[0] : other == -1 ? new int[] {one} : new int[] {one, other};
            m.pass(who);
            Check.due("quarter", x, x.quarter(one, other), m.level, m.lastLifted, m.lastOver, m.lastDry);
        }
        for (int g = 0; g < m.lodgers.size(); g++) {
            Check.due("debt", x.debt(g), m.lodgers.get(g).debt);
            Check.due("dry", x.lodger(g, 4), m.lodgers.get(g).dry);
        }
    }

    private static void questions(RentByTheWheel x, Model m) {
        String was = Check.told(x);
        int n = 1 + R.nextInt(60);
        even(x, m, n);
        lasts(x, m);
        pairs(x, m);
        enough(x, m);
        pegs(x, m);
        pays(x, m);
        for (int g = 0; g < m.lodgers.size(); g++) {
            roomy(x, m, g, n);
            bath(x, m, g);
            step(x, m, g);
            for (int h = 0; h < m.lodgers.size(); h++) {
                if (g != h) {
                    changed(x, m, g, h, n);
                    rests(x, m, g, h);
                    braked(x, m, g, h);
                }
            }
        }
        x.forget();
        Check.same("questions change nothing", Check.told(x), was);
    }

    private static void even(RentByTheWheel x, Model from, int n) {
        Model m = from.copy();
        if (m.lodgers.isEmpty()) {
            Check.due("even of none", x.even(n), -2);
            return;
        }
        int dry = 0;
        int idle = 0;
        for (int q = 0; q < n; q++) {
            int who = greatest(m);
            if (m.lodgers.get(who).debt <= 0) {
                idle++;
                dry += m.pass();
            } else {
                dry += m.pass(who);
            }
        }
        Check.due("even(" + n + ")", x, x.even(n), dry, m.level, m.lodgers.get(greatest(m)).debt, idle);
    }

    private static int greatest(Model m) {
        int best = 0;
        for (int g = 0; g < m.lodgers.size(); g++) {
            best = m.lodgers.get(g).debt > m.lodgers.get(best).debt ? g : best;
        }
        return best;
    }

    private static void lasts(RentByTheWheel x, Model from) {
        Model m = from.copy();
        for (int q = 0; q < 99; q++) {
            if (m.pass() > 0) {
                Check.due("lasts", x, x.lasts(), q, m.lastDry);
                return;
            }
        }
        Check.due("lasts", x.lasts(), -2);
    }

    private static void pays(RentByTheWheel x, Model from) {
        int those = R.nextInt(1 << from.lodgers.size());
        for (int k = 0; k <= 40; k++) {
            Model m = from.copy();
            for (int q = 0; q < k; q++) {
                m.pass();
            }
            List<Long> row = new ArrayList<>();
            int sum = 0;
            for (int g = 0; g < m.lodgers.size(); g++) {
                if ((those >> g & 1) == 1) {
                    int treads = 0;
                    while (m.lodgers.get(g).debt - treads * m.lodgers.get(g).pace > 0) {
                        treads++;
                    }
                    sum += treads;
                    row.add((long) treads);
                }
            }
            if (sum <= k) {
                Check.due("pays", x, x.pays(those), k, row.stream().mapToLong(v -> v).toArray());
                return;
            }
        }
        Check.due("pays", x.pays(those), -2);
    }

    private static void roomy(RentByTheWheel x, Model from, int g, int n) {
        int bound = dryWithRoom(from, g, n, 999);
        int room = 1;
        while (dryWithRoom(from, g, n, room) > bound) {
            room++;
        }
        Check.due("roomy", x, x.roomy(g, n), room, dryWithRoom(from, g, n, room));
    }

    private static int dryWithRoom(Model from, int g, int n, int room) {
        Model m = from.copy();
        m.room = room;
        m.level = Math.min(m.level, room);
        int dry = 0;
        for (int q = 0; q < n; q++) {
            dry += m.pass(g);
        }
        return dry;
    }

    private static void bath(RentByTheWheel x, Model from, int g) {
        Model m = from.copy();
        int v = 1 + R.nextInt(from.room);
        int dry = 0;
        for (int q = 1; q <= 60; q++) {
            dry += m.pass(g);
            if (m.level >= v) {
                Check.due("bath", x, x.bath(g, v), q, dry);
                return;
            }
        }
        Check.due("bath", x.bath(g, v), -2);
    }

    private static void step(RentByTheWheel x, Model m, int g) {
        int best = -1;
        int most = -1;
        for (int h = 0; h < m.lodgers.size(); h++) {
            if (h != g && m.lift(new int[] {g, h}) > most) {
                best = h;
                most = m.lift(new int[] {g, h});
            }
        }
        if (best == -1) {
            Check.due("step", x.step(g), -2);
        } else {
            int alone = m.lift(new int[] {g}) + m.lift(new int[] {best});
            Check.due("step", x, x.step(g), best, most, alone - most);
        }
    }

    private static void changed(RentByTheWheel x, Model from, int g, int h, int n) {
        Model m = from.copy();
        Model swapped = from.copy();
        swapped.lodgers.get(g).storey = m.lodgers.get(h).storey;
        swapped.lodgers.get(h).storey = m.lodgers.get(g).storey;
        int asItIs = 0;
        int so = 0;
        for (int q = 0; q < n; q++) {
            asItIs += m.pass();
            so += swapped.pass();
        }
        Check.due("changed", x, x.changed(g, h, n), so - asItIs, asItIs, so);
    }

    private static void rests(RentByTheWheel x, Model m, int g, int h) {
        int n = 1 + R.nextInt(9);
        int[][] ways = {{}, {g}, {h}, {g, h}};
        int[] first = new int[4];
        int[] second = new int[4];
        for (int way = 0; way < 4; way++) {
            int half = m.lift(ways[way]) / 2;
            int turns = m.turns(ways[way]);
            first[way] = half * n - ((way & 1) == 1 ? turns : 0);
            second[way] = half * n - ((way & 2) == 2 ? turns : 0);
        }
        int bits = 0;
        long[] row = {};
        for (int way = 3; way >= 0; way--) {
            if (first[way ^ 1] <= first[way] && second[way ^ 2] <= second[way]) {
                bits |= 1 << way;
                row = new long[] {first[way], second[way]};
            }
        }
        Check.due("rests", x, x.rests(g, h, n), bits, row);
    }

    private static void braked(RentByTheWheel x, Model m, int g, int h) {
        boolean two = R.nextBoolean();
        int[] who = two ? new int[] {g, h} : new int[] {g};
        int those = two ? 1 << g | 1 << h : 1 << g;
        int v = m.pull(g, 0, who) + (two && R.nextBoolean() ? m.pull(h, 0, who) : 0);
        int found = 0;
        int least = -1;
        int sure = those;
        for (int set = those; set >= 0; set--) {
            if ((set & ~those) == 0) {
                int sum = 0;
                for (int one : who) {
                    sum += (set >> one & 1) == 1 ? 0 : m.pull(one, 0, who);
                }
                if (Math.min(sum, m.room) == v) {
                    found++;
                    least = set;
                    sure &= set;
                }
            }
        }
        Check.due("braked", x, x.braked(those, v), found, least, found == 0 ? 0 : sure);
    }

    private static void pairs(RentByTheWheel x, Model m) {
        int those = R.nextInt(1 << m.lodgers.size());
        int[] row = new int[m.lodgers.size()];
        long[] best = new long[row.length];
        int most = tryPairs(m, those, row, 0, best, -1);
        Check.due("pairs(" + those + ")", x, x.pairs(those), most, best);
    }

    /** Every row of mates that there is, the least first; those that are no pairing are thrown away. */
    private static int tryPairs(Model m, int those, int[] row, int at, long[] best, int most) {
        if (at < row.length) {
            for (int mate = -1; mate < row.length; mate++) {
                row[at] = mate;
                most = tryPairs(m, those, row, at + 1, best, most);
            }
            return most;
        }
        int over = 0;
        int sum = 0;
        for (int g = 0; g < row.length; g++) {
            boolean in = (those >> g & 1) == 1;
            if (row[g] == g || row[g] != -1 && (!in || row[row[g]] != g)) {
                return most;
            }
            over += in && row[g] == -1 ? 1 : 0;
            sum += row[g] > g ? m.lift(new int[] {g, row[g]}) : 0;
        }
        if (over != Integer.bitCount(those) % 2 || sum <= most) {
            return most;
        }
        for (int g = 0; g < row.length; g++) {
            best[g] = row[g];
        }
        return sum;
    }

    private static void enough(RentByTheWheel x, Model m) {
        int v = R.nextInt(40);
        int found = 0;
        int most = -1;
        long[] first = null;
        for (int g = 0; g < m.lodgers.size(); g++) {
            for (int h = g + 1; h < m.lodgers.size(); h++) {
                int pails = m.lift(new int[] {g, h});
                most = Math.max(most, pails);
                if (pails >= v) {
                    found++;
                    first = first == null ? new long[] {g, h} : first;
                }
            }
        }
        long[] row = first == null ? new long[] {most} : new long[] {first[0], first[1], most};
        Check.due("enough", x, x.enough(v), found, row);
    }

    private static void pegs(RentByTheWheel x, Model m) {
        long product = 1;
        int some = 0;
        int sure = 0;
        for (int i = 0; i < 1 + R.nextInt(4); i++) {
            int turns = R.nextInt(R.nextInt(10) + 1);
            int weight = R.nextBoolean() ? -1 : R.nextInt(19);
            x.peg(turns, weight);
            List<Long> sets = new ArrayList<>();
            int all = 63;
            for (int set = 0; set < 1 << m.lodgers.size(); set++) {
                int[] who = members(set);
                int heavy = 0;
                for (int g : who) {
                    heavy += m.lodgers.get(g).weight;
                }
                if (who.length <= 2 && m.turns(who) == turns && (weight == -1 || weight == heavy)) {
                    sets.add((long) set);
                    some |= set;
                    all &= set;
                }
            }
            sure |= sets.isEmpty() ? 0 : all;
            product = Math.min(1000000, product * sets.size());
            long[] row = sets.stream().limit(10).mapToLong(s -> s).toArray();
            Check.due("ways", x, x.ways(x.count(9) - 1), sets.size(), row);
        }
        Check.due("trod", x, x.trod(), product, product == 0 ? 0 : some, product == 0 ? 0 : sure);
        x.forget();
    }

    private static int[] members(int set) {
        int[] who = new int[Integer.bitCount(set)];
        int at = 0;
        for (int g = 0; g < 6; g++) {
            if ((set >> g & 1) == 1) {
                who[at] = g;
                at++;
            }
        }
        return who;
    }

    private static void rows(RentByTheWheel x, Model from) {
        int those = R.nextInt(1 << from.lodgers.size());
        int n = 1 + R.nextInt(new int[] {12, 12, 7, 6, 4, 4, 3}[Integer.bitCount(those)]);
        int fewest = 99;
        int level = -1;
        long[] few = null;
        int driest = 99;
        int trodden = 99;
        long[] dry = null;
        for (int[] row : from.rows(those, n)) {
            Model m = from.copy();
            int times = 0;
            int treads = 0;
            for (int who : row) {
                times += m.passBy(who);
                treads += who == -1 ? 0 : 1;
            }
            if (times == 0 && (treads < fewest || treads == fewest && m.level > level)) {
                fewest = treads;
                level = m.level;
                few = longs(row);
            }
            if (times < driest || times == driest && treads < trodden) {
                driest = times;
                trodden = treads;
                dry = longs(row);
            }
        }
        if (few == null) {
            Check.due("fewest", x.fewest(those, n), -2);
        } else {
            Check.due("fewest", x, x.fewest(those, n), fewest, few);
        }
        Check.due("driest", x, x.driest(those, n), driest, dry);
    }

    private static long[] longs(int[] row) {
        long[] l = new long[row.length];
        for (int i = 0; i < row.length; i++) {
            l[i] = row[i];
        }
        return l;
    }
}
