import java.util.ArrayList;
import java.util.Arrays;
import java.util.List;
import java.util.Random;

/** A second, plain reading of the document's terms: all ways are tried, nothing is clever. */
final class Model {
    /** A rule as a tree, so that reading its text is not trusted. */
    interface Tree {
        int of(int t, int p, int w, int l, int n, int q, int y);
    }

    static final class Lodger {
        int storey;
        int pace;
        int weight;
        String wants;
        int debt;
        int dry;
        boolean brakes;

        int want(int now) {
            return wants.charAt(now % 12 % wants.length()) - '0';
        }

        Lodger copy() {
            Lodger c = new Lodger();
            c.storey = storey;
            c.pace = pace;
            c.weight = weight;
            c.wants = wants;
            c.debt = debt;
            c.dry = dry;
            c.brakes = brakes;
            return c;
        }
    }

    List<Lodger> lodgers = new ArrayList<>();
    Tree rule = (t, p, w, l, n, q, y) -> t * (w + 1) / 4;
    int now;
    int level;
    int room = 50;
    int due = 2;
    int lastLifted;
    int lastOver;
    int lastDry;

    Model copy() {
        Model m = new Model();
        for (Lodger g : lodgers) {
            m.lodgers.add(g.copy());
        }
        m.rule = rule;
        m.now = now;
        m.level = level;
        m.room = room;
        m.due = due;
        return m;
    }

    int turns(int... who) {
        int turns = 0;
        for (int g : who) {
            int pace = lodgers.get(g).pace;
            turns = turns == 0 || pace < turns ? pace : turns;
        }
        return turns;
    }

    /** As one who does not brake. */
    int pull(int g, int levelThen, int... who) {
        Lodger one = lodgers.get(g);
        int v = rule.of(turns(who), one.pace, one.weight, levelThen, who.length, now % 12, one.storey);
        return v < 0 ? 0 : v > 99 ? 99 : v;
    }

    int lift(int g, int... who) {
        return lodgers.get(g).brakes ? 0 : pull(g, level, who);
    }

    int lift(int... who) {
        int sum = 0;
        for (int g : who) {
            sum += lift(g, who);
        }
        return sum;
    }

    /** How many were DRY in the QUARTER. */
    int pass(int... who) {
        lastLifted = lift(who);
        int turns = turns(who);
        for (int g : who) {
            lodgers.get(g).debt -= turns;
        }
        lastOver = 0;
        level += lastLifted;
        if (level > room) {
            lastOver = level - room;
            level = room;
        }
        lastDry = 0;
        for (int storey = 0; storey <= 5; storey++) {
            for (int g = 0; g < lodgers.size(); g++) {
                Lodger one = lodgers.get(g);
                if (one.storey == storey) {
                    int want = one.want(now);
                    if (level >= want) {
                        level -= want;
                    } else {
                        one.dry++;
                        lastDry |= 1 << g;
                    }
                }
            }
        }
        now++;
        if (now % 12 == 0) {
            for (Lodger one : lodgers) {
                one.debt += due * (one.storey + 1);
            }
        }
        return Integer.bitCount(lastDry);
    }

    int passBy(int who) {
        return who == -1 ? pass() : pass(who);
    }

    /** All rows of n treadings by those, the least first. */
    List<int[]> rows(int those, int n) {
        List<int[]> all = new ArrayList<>();
        all.add(new int[0]);
        for (int i = 0; i < n; i++) {
            List<int[]> more = new ArrayList<>();
            for (int[] row : all) {
                for (int who = -1; who < lodgers.size(); who++) {
                    if (who == -1 || (those >> who & 1) == 1) {
                        int[] longer = Arrays.copyOf(row, row.length + 1);
                        longer[row.length] = who;
                        more.add(longer);
                    }
                }
            }
            all = more;
        }
        return all;
    }

    static Model random(Random r, RentByTheWheel x, int most) {
        Model m = new Model();
        int many = r.nextInt(most + 1);
        StringBuilder text = new StringBuilder();
        for (int g = 0; g < many; g++) {
            Lodger one = new Lodger();
            one.storey = r.nextInt(6);
            one.pace = 1 + r.nextInt(9);
            one.weight = 1 + r.nextInt(9);
            StringBuilder wants = new StringBuilder();
            int digits = 1 + r.nextInt(7);
            for (int i = 0; i < digits; i++) {
                wants.append((char) ('0' + r.nextInt(r.nextInt(10) + 1)));
            }
            one.wants = wants.toString();
            m.lodgers.add(one);
            text.append(g == 0 ? "" : ";").append(one.storey).append(one.pace).append(one.weight).append(':').append(wants);
        }
        Check.due("house " + text, Check.house(x, text.toString()), many);
        if (r.nextInt(3) > 0) {
            StringBuilder rule = new StringBuilder();
            Tree tree = expression(r, rule, 0);
            if (rule.length() <= 40) {
                Check.due("rule " + rule, Check.rule(x, rule.toString()), 0);
                m.rule = tree;
            }
        }
        return m;
    }

    private static Tree expression(Random r, StringBuilder s, int depth) {
        Tree a = sum(r, s, depth);
        if (r.nextInt(4) > 0) {
            return a;
        }
        char c = "<>=".charAt(r.nextInt(3));
        s.append(c);
        Tree b = sum(r, s, depth);
        return (t, p, w, l, n, q, y) -> {
            int d = Integer.compare(a.of(t, p, w, l, n, q, y), b.of(t, p, w, l, n, q, y));
            return (c == '<' ? d < 0 : c == '>' ? d > 0 : d == 0) ? 1 : 0;
        };
    }

    private static Tree sum(Random r, StringBuilder s, int depth) {
        Tree a = product(r, s, depth);
        for (int i = r.nextInt(3); i > 0; i--) {
            Tree left = a;
            boolean plus = r.nextInt(3) > 0;
            s.append(plus ? '+' : '-');
            Tree right = product(r, s, depth);
            a = (t, p, w, l, n, q, y) -> {
                int u = left.of(t, p, w, l, n, q, y);
                int v = right.of(t, p, w, l, n, q, y);
                return plus ? u + v : u - v;
            };
        }
        return a;
    }

    private static Tree product(Random r, StringBuilder s, int depth) {
        Tree a = negated(r, s, depth);
        for (int i = r.nextInt(3); i > 0; i--) {
            Tree left = a;
            boolean times = r.nextBoolean();
            s.append(times ? '*' : '/');
            Tree right = negated(r, s, depth);
            a = (t, p, w, l, n, q, y) -> {
                int u = left.of(t, p, w, l, n, q, y);
                int v = right.of(t, p, w, l, n, q, y);
                return times ? u * v : v == 0 ? 0 : (int) ((long) u / v);
            };
        }
        return a;
    }

    private static Tree negated(Random r, StringBuilder s, int depth) {
        if (r.nextInt(8) == 0) {
            s.append('-');
            Tree a = negated(r, s, depth);
            return (t, p, w, l, n, q, y) -> -a.of(t, p, w, l, n, q, y);
        }
        int kind = r.nextInt(depth < 4 ? 5 : 4);
        if (kind == 0) {
            int v = r.nextInt(r.nextBoolean() ? 10 : 1000);
            s.append(v);
            return (t, p, w, l, n, q, y) -> v;
        }
        if (kind == 4) {
            s.append('(');
            Tree a = expression(r, s, depth + 1);
            s.append(')');
            return a;
        }
        int name = r.nextInt(7);
        s.append("tpwlnqy".charAt(name));
        return (t, p, w, l, n, q, y) -> new int[] {t, p, w, l, n, q, y}[name];
    }
}
