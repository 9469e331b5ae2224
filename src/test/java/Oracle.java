import java.math.BigInteger;
import java.util.ArrayList;
import java.util.Arrays;
import java.util.Comparator;
import java.util.HashMap;
import java.util.HashSet;
import java.util.List;
import java.util.Map;
import java.util.PriorityQueue;
import java.util.Set;

/**
 * The document again, written as literally as can be and by other ways than the program:
 * step by step, set by set, row by row. Slow, and only for comparing.
 */
final class Oracle {
    static final int NONE = -1, BAD = -2, NO = -3, FULL = -4;

    private static final class Man { int weight, breath = 1000; }
    private static final class Rope { int strength, wear; boolean wet, parted; }
    private static final class Stone { int x, z, hours, rests, key = NONE; }
    private static final class Stand { int x, z, needs; }

    private int w = 1000, s = 40, a = 60, f = 10, r = 2, t = 5;
    private final List<Man> men = new ArrayList<>();
    private final List<Rope> ropes = new ArrayList<>();
    private final List<Integer> row = new ArrayList<>();
    private final List<Stone> stones = new ArrayList<>();
    private final List<Stand> stands = new ArrayList<>();
    private final Map<List<Integer>, Integer> prices = new HashMap<>();
    private int c = 1, reachX = 8, reachZ = 4, m = 2;
    private final int[] light = new int[80];
    private final Set<Integer> frosts = new HashSet<>();
    private final List<int[]> corners = new ArrayList<>();

    Oracle() {
        Arrays.fill(light, 8);
    }

    private static boolean out(int v, int low, int high) {
        return v < low || v > high;
    }

    // ---- the wheel, men

    int wheel(int w, int s, int a, int f) {
        if (out(w, 100, 2000) || out(s, 10, 60) || out(a, 10, 200) || out(f, 0, 100)) return BAD;
        this.w = w;
        this.s = s;
        this.a = a;
        this.f = f;
        return 1;
    }

    int winds(int r, int t) {
        if (out(r, 0, 10) || out(t, 1, 20)) return BAD;
        this.r = r;
        this.t = t;
        return 1;
    }

    private int layerOfTurn(int turn) {
        return turn / t;
    }

    private int girth(int layer) {
        return a + 6 * r * layer;
    }

    int lift(int q) {
        if (out(q, 0, 20000)) return BAD;
        int height = 0, turn = 0, left = q;
        while (left >= s) {
            height += girth(layerOfTurn(turn));
            turn++;
            left -= s;
        }
        return height + left * girth(layerOfTurn(turn)) / s;
    }

    int steps(int h) {
        if (out(h, 0, 20000)) return BAD;
        int turns = 0, whole = 0, inTurn = 0;
        for (int q = 0; ; q++) {
            if (whole + inTurn * girth(layerOfTurn(turns)) / s >= h) return q;
            inTurn++;
            if (inTurn == s) {
                whole += girth(layerOfTurn(turns));
                turns++;
                inTurn = 0;
            }
        }
    }

    private int lastLayer(int q) {
        return q == 0 ? 0 : layerOfTurn((q - 1) / s);
    }

    int layer(int q, int what) {
        if (out(q, 0, 20000) || out(what, 0, 1)) return BAD;
        return what == 0 ? lastLayer(q) : girth(lastLayer(q));
    }

    int man(int weight) {
        if (out(weight, 40, 150)) return BAD;
        if (men.size() == 8) return FULL;
        Man man = new Man();
        man.weight = weight;
        men.add(man);
        return men.size() - 1;
    }

    int breath(int man) {
        return out(man, 0, men.size() - 1) ? BAD : men.get(man).breath;
    }

    int rest(int n) {
        if (out(n, 1, 1000)) return BAD;
        for (Man man : men) man.breath = Math.min(5000, man.breath + 2 * n);
        return 1;
    }

    private List<Man> some(int bits) {
        List<Man> list = new ArrayList<>();
        for (int i = 0; i < men.size(); i++) if ((bits & 1 << i) != 0) list.add(men.get(i));
        return list;
    }

    private static int sum(List<Man> list) {
        int sum = 0;
        for (Man man : list) sum += man.weight;
        return sum;
    }

    int can(int bits, int load, int h) {
        if (out(bits, 0, (1 << men.size()) - 1) || out(load, 1, 50000) || out(h, 0, 20000)) return BAD;
        List<Man> list = some(bits);
        BigInteger left = BigInteger.valueOf(sum(list)).multiply(BigInteger.valueOf(w)).multiply(BigInteger.valueOf(100));
        BigInteger right = BigInteger.valueOf(load).multiply(BigInteger.valueOf(girth(lastLayer(steps(h)))))
                .multiply(BigInteger.valueOf(100 + f));
        if (left.compareTo(right) < 0) return 0;
        for (Man man : list) if (man.breath < (1 + load / 1000) * steps(h)) return 2;
        return 1;
    }

    int fewest(int load, int h) {
        if (out(load, 1, 50000) || out(h, 0, 20000)) return BAD;
        List<Integer> sets = new ArrayList<>();
        for (int bits = 0; bits < 1 << men.size(); bits++) if (can(bits, load, h) == 1) sets.add(bits);
        sets.sort(Comparator.<Integer>comparingInt(Integer::bitCount).thenComparingInt(b -> sum(some(b)))
                .thenComparingInt(b -> b));
        return sets.isEmpty() ? NONE : sets.get(0);
    }

    int hoist(int bits, int rope, int load, int h) {
        int can = can(bits, load, h);
        if (can == BAD || out(rope, -1, ropes.size() - 1)) return BAD;
        if (can != 1 || rope >= 0 && ropes.get(rope).parted) return NO;
        if (rope >= 0 && pull(rope, load) == 0) return -10;
        for (Man man : some(bits)) man.breath -= (1 + load / 1000) * steps(h);
        return steps(h);
    }

    // ---- ropes

    int rope(int strength) {
        if (out(strength, 100, 50000)) return BAD;
        if (ropes.size() == 6) return FULL;
        Rope rope = new Rope();
        rope.strength = strength;
        ropes.add(rope);
        return ropes.size() - 1;
    }

    int wet(int rope, boolean is) {
        if (out(rope, 0, ropes.size() - 1)) return BAD;
        if (ropes.get(rope).wet == is) return NO;
        ropes.get(rope).wet = is;
        return 1;
    }

    private static int holds(Rope rope) {
        int dry = rope.strength * Math.max(0, 1000 - rope.wear) / 1000;
        return rope.parted ? 0 : rope.wet ? 3 * dry / 4 : dry;
    }

    private static void pulled(Rope rope, int load) {
        if (load > holds(rope)) {
            rope.parted = true;
        } else {
            int share = load * 100 / rope.strength;
            rope.wear += 1 + share * share / 1000;
        }
    }

    int about(int rope, int what) {
        if (out(rope, 0, ropes.size() - 1) || out(what, 0, 4)) return BAD;
        Rope it = ropes.get(rope);
        return new int[] {it.strength, it.wear, it.wet ? 1 : 0, it.parted ? 1 : 0, holds(it)}[what];
    }

    int pull(int rope, int load) {
        if (out(rope, 0, ropes.size() - 1) || out(load, 1, 50000)) return BAD;
        if (ropes.get(rope).parted) return NO;
        pulled(ropes.get(rope), load);
        return ropes.get(rope).parted ? 0 : 1;
    }

    int load(int v) {
        if (out(v, 1, 50000)) return BAD;
        if (row.size() == 12) return FULL;
        row.add(v);
        return row.size();
    }

    int clear() {
        int had = row.size();
        row.clear();
        return had;
    }

    private int partsAt(int strength, int twice) {
        Rope rope = new Rope();
        rope.strength = strength;
        for (int i = 0; i < row.size(); i++) {
            pulled(rope, (twice & 1 << i) != 0 ? 2 * row.get(i) : row.get(i));
            if (rope.parted) return i;
        }
        return NONE;
    }

    int bears(int strength) {
        return out(strength, 100, 50000) ? BAD : partsAt(strength, 0);
    }

    int blamed(int strength, int k) {
        if (out(strength, 100, 50000) || out(k, 0, row.size() - 1)) return BAD;
        int told = partsAt(strength, 0);
        if (told != NONE && told <= k) return NO;
        List<Integer> sets = new ArrayList<>();
        for (int bits = 0; bits < 1 << k + 1; bits++) if (partsAt(strength, bits) == k) sets.add(bits);
        sets.sort(Comparator.<Integer>comparingInt(Integer::bitCount).thenComparingInt(b -> b));
        return sets.isEmpty() ? NONE : sets.get(0);
    }

    // ---- stones, stands, plans

    int stone(int x, int z, int hours, int rests) {
        boolean bad = out(x, 0, 30) || out(z, 0, 12) || out(hours, 1, 12);
        if (bad || out(rests, 0, (1 << stones.size()) - 1)) return BAD;
        if (stones.size() == 14) return FULL;
        Stone stone = new Stone();
        stone.x = x;
        stone.z = z;
        stone.hours = hours;
        stone.rests = rests;
        stones.add(stone);
        return stones.size() - 1;
    }

    private boolean noStone(int i) {
        return out(i, 0, stones.size() - 1);
    }

    private boolean noStand(int i) {
        return out(i, 0, stands.size() - 1);
    }

    int arched(int stone, int key) {
        if (noStone(stone) || noStone(key) || stone == key) return BAD;
        if (stones.get(stone).key != NONE) return NO;
        stones.get(stone).key = key;
        return 1;
    }

    int centrings(int c) {
        if (out(c, 0, 5)) return BAD;
        int was = this.c;
        this.c = c;
        return was;
    }

    int stand(int x, int z, int needs) {
        if (out(x, 0, 30) || out(z, 0, 12) || out(needs, 0, 16383)) return BAD;
        if (stands.size() == 5) return FULL;
        Stand stand = new Stand();
        stand.x = x;
        stand.z = z;
        stand.needs = needs;
        stands.add(stand);
        return stands.size() - 1;
    }

    private int priceOf(int from, int to) {
        return prices.getOrDefault(List.of(Math.min(from, to), Math.max(from, to)), 1);
    }

    int price(int from, int to, int v) {
        if (noStand(from) || noStand(to) || from == to || out(v, 1, 100)) return BAD;
        int was = priceOf(from, to);
        prices.put(List.of(Math.min(from, to), Math.max(from, to)), v);
        return was;
    }

    int reach(int r, int h) {
        if (out(r, 1, 30) || out(h, 1, 12)) return BAD;
        reachX = r;
        reachZ = h;
        return 1;
    }

    int reaches(int stand, int stone) {
        if (noStand(stand) || noStone(stone)) return BAD;
        Stand from = stands.get(stand);
        Stone to = stones.get(stone);
        return Math.abs(from.x - to.x) <= reachX && to.z <= from.z + reachZ ? 1 : 0;
    }

    int may(int set, int stone) {
        if (out(set, 0, (1 << stones.size()) - 1) || noStone(stone)) return BAD;
        if ((set & 1 << stone) != 0 || (stones.get(stone).rests & set) != stones.get(stone).rests) return 0;
        int then = set | 1 << stone;
        Set<Integer> arches = new HashSet<>();
        for (int i = 0; i < stones.size(); i++) {
            int key = stones.get(i).key;
            if (key != NONE && (then & 1 << i) != 0 && (then & 1 << key) == 0) arches.add(key);
        }
        return arches.size() <= c ? 1 : 0;
    }

    long orders() {
        return ordersFrom(0, new HashMap<>());
    }

    private long ordersFrom(int set, Map<Integer, Long> known) {
        if (set == (1 << stones.size()) - 1) return 1;
        if (known.containsKey(set)) return known.get(set);
        long sum = 0;
        for (int i = 0; i < stones.size(); i++) if (may(set, i) == 1) sum += ordersFrom(set | 1 << i, known);
        known.put(set, sum);
        return sum;
    }

    private static final class Way {
        int cost, set, stand;
        List<Integer> acts = new ArrayList<>();

        Way with(int act, int price) {
            Way next = new Way();
            next.cost = cost + price;
            next.set = act < 100 ? set | 1 << act : set;
            next.stand = act < 100 ? stand : act - 100;
            next.acts.addAll(acts);
            next.acts.add(act);
            return next;
        }
    }

    private static int compareRows(List<Integer> one, List<Integer> two) {
        for (int i = 0; i < Math.min(one.size(), two.size()); i++) {
            if (!one.get(i).equals(two.get(i))) return Integer.compare(one.get(i), two.get(i));
        }
        return Integer.compare(one.size(), two.size());
    }

    /** The cheapest ways first, of like ones the first as rows; null if none lays all. */
    private Way bestWay() {
        PriorityQueue<Way> open = new PriorityQueue<>(Comparator.<Way>comparingInt(way -> way.cost)
                .thenComparing((one, two) -> compareRows(one.acts, two.acts)));
        Set<Integer> done = new HashSet<>();
        open.add(new Way());
        while (!open.isEmpty()) {
            Way way = open.poll();
            if (way.set == (1 << stones.size()) - 1) return way;
            if (!done.add(way.set * 8 + way.stand)) continue;
            for (int i = 0; i < stones.size(); i++) {
                if (may(way.set, i) == 1 && reaches(way.stand, i) == 1) open.add(way.with(i, 0));
            }
            for (int j = 0; j < stands.size(); j++) {
                boolean built = (stands.get(j).needs & way.set) == stands.get(j).needs;
                if (j != way.stand && built) open.add(way.with(100 + j, priceOf(way.stand, j)));
            }
        }
        return null;
    }

    /** All acts of the plan at once; null if there is none. */
    List<Integer> wholePlan() {
        Way way = bestWay();
        return way == null ? null : way.acts;
    }

    int plan() {
        if (stands.isEmpty()) return NO;
        Way way = bestWay();
        return way == null ? NONE : way.cost;
    }

    int act(int i) {
        if (i < 0) return BAD;
        if (stands.isEmpty()) return NO;
        Way way = bestWay();
        return way == null || i >= way.acts.size() ? NONE : way.acts.get(i);
    }

    // ---- days

    int light(int from, int to, int hours) {
        if (out(from, 0, 79) || out(to, from, 79) || out(hours, 0, 16)) return BAD;
        for (int day = from; day <= to; day++) light[day] = hours;
        return 1;
    }

    int frost(int day, boolean is) {
        if (out(day, 0, 79)) return BAD;
        if (frosts.contains(day) == is) return NO;
        if (is) frosts.add(day);
        else frosts.remove(day);
        return 1;
    }

    int mortar(int m) {
        if (out(m, 0, 10)) return BAD;
        int was = this.m;
        this.m = m;
        return was;
    }

    private List<Integer> order() {
        List<Integer> order = new ArrayList<>();
        Way way = stands.isEmpty() ? null : bestWay();
        for (int i = 0; way == null && i < stones.size(); i++) order.add(i);
        for (int i = 0; way != null && i < way.acts.size(); i++) {
            if (way.acts.get(i) < 100) order.add(way.acts.get(i));
        }
        return order;
    }

    private Map<Integer, Integer> daysOf(List<Integer> order, Set<Integer> cold) {
        Map<Integer, Integer> days = new HashMap<>();
        int[] used = new int[80];
        int from = 0;
        for (int stone : order) {
            int day = from;
            while (day < 80 && !fits(stone, day, days, used, cold)) day++;
            if (day == 80) return days;
            days.put(stone, day);
            used[day] += stones.get(stone).hours;
            from = day;
        }
        return days;
    }

    private boolean fits(int stone, int day, Map<Integer, Integer> days, int[] used, Set<Integer> cold) {
        if (cold.contains(day) || light[day] - used[day] < stones.get(stone).hours) return false;
        for (int i = 0; i < stone; i++) {
            if ((stones.get(stone).rests & 1 << i) == 0) continue;
            int dry = 0;
            for (int between = days.get(i) + 1; between < day; between++) if (!cold.contains(between)) dry++;
            if (dry < m) return false;
        }
        return true;
    }

    private int endOf(List<Integer> order, Set<Integer> cold) {
        Map<Integer, Integer> days = daysOf(order, cold);
        return days.size() < stones.size() ? 80 : days.get(order.get(order.size() - 1));
    }

    int laid(int stone) {
        if (noStone(stone)) return BAD;
        return daysOf(order(), frosts).getOrDefault(stone, NONE);
    }

    int end() {
        if (stones.isEmpty()) return NONE;
        int end = endOf(order(), frosts);
        return end == 80 ? NONE : end;
    }

    int worst(int f, int what, int i) {
        if (out(f, 0, 2) || out(what, 0, 1) || what == 1 && i < 0) return BAD;
        if (stones.isEmpty()) return NONE;
        List<Integer> order = order();
        int latest = NONE;
        List<Integer> best = null;
        for (List<Integer> days : setsOfDays(f)) {
            Set<Integer> cold = new HashSet<>(frosts);
            cold.addAll(days);
            int end = endOf(order, cold);
            if (best == null || end > latest) {
                latest = end;
                best = days;
            }
        }
        if (what == 0) return latest;
        return best == null || i >= best.size() ? NONE : best.get(i);
    }

    private List<List<Integer>> setsOfDays(int f) {
        List<List<Integer>> sets = new ArrayList<>();
        if (f == 0) sets.add(List.of());
        for (int one = 0; f > 0 && one < 60; one++) {
            if (frosts.contains(one)) continue;
            if (f == 1) sets.add(List.of(one));
            for (int two = one + 1; f == 2 && two < 60; two++) {
                if (!frosts.contains(two)) sets.add(List.of(one, two));
            }
        }
        return sets;
    }

    // ---- shapes

    private record Fraction(BigInteger above, BigInteger below) {
        static Fraction of(BigInteger above, BigInteger below) {
            BigInteger common = above.gcd(below);
            BigInteger by = below.signum() < 0 ? common.negate() : common;
            return new Fraction(above.divide(by), below.divide(by));
        }

        Fraction minus(Fraction other) {
            return of(above.multiply(other.below).subtract(other.above.multiply(below)), below.multiply(other.below));
        }

        int compare(Fraction other) {
            return minus(other).above.signum();
        }

        static Fraction whole(int v) {
            return of(BigInteger.valueOf(v), BigInteger.ONE);
        }
    }

    int shape() {
        int had = corners.size();
        corners.clear();
        return had;
    }

    private static boolean noPoint(int x, int y) {
        return out(x, 0, 1000) || out(y, 0, 1000);
    }

    int corner(int x, int y) {
        if (noPoint(x, y)) return BAD;
        if (corners.size() == 8) return FULL;
        corners.add(new int[] {x, y});
        return corners.size();
    }

    private BigInteger cross(int i) {
        int[] p = corners.get(i), q = corners.get((i + 1) % corners.size());
        return BigInteger.valueOf((long) p[0] * q[1] - (long) q[0] * p[1]);
    }

    private BigInteger signedArea() {
        BigInteger sum = BigInteger.ZERO;
        for (int i = 0; i < corners.size(); i++) sum = sum.add(cross(i));
        return sum;
    }

    int area() {
        return corners.size() < 3 ? NO : signedArea().abs().intValueExact();
    }

    private boolean noMiddle() {
        return corners.size() < 3 || signedArea().signum() == 0;
    }

    private Fraction centre(int axis) {
        BigInteger sum = BigInteger.ZERO;
        for (int i = 0; i < corners.size(); i++) {
            int both = corners.get(i)[axis] + corners.get((i + 1) % corners.size())[axis];
            sum = sum.add(BigInteger.valueOf(both).multiply(cross(i)));
        }
        return Fraction.of(sum, signedArea().multiply(BigInteger.valueOf(3)));
    }

    long middle(int what) {
        if (out(what, 0, 3)) return -2000000000L;
        if (noMiddle()) return -3000000000L;
        Fraction it = centre(what / 2);
        return (what % 2 == 0 ? it.above : it.below).longValueExact();
    }

    private Fraction tiltOf(int x, int x2) {
        return centre(0).minus(Fraction.of(BigInteger.valueOf(x + x2), BigInteger.TWO));
    }

    long tilt(int x, int y, int x2, int y2, int what) {
        if (noPoint(x, y) || noPoint(x2, y2) || out(what, 0, 1)) return -2000000000L;
        if (noMiddle()) return -3000000000L;
        Fraction it = tiltOf(x, x2);
        return (what == 0 ? it.above : it.below).longValueExact();
    }

    int steady(int x, int y, int x2, int y2) {
        if (noPoint(x, y) || noPoint(x2, y2)) return BAD;
        if (noMiddle()) return NO;
        int one = centre(0).compare(Fraction.whole(x)), two = centre(0).compare(Fraction.whole(x2));
        boolean between = one >= 0 && two <= 0 || one <= 0 && two >= 0;
        boolean below = centre(1).compare(Fraction.whole(y)) < 0 && centre(1).compare(Fraction.whole(y2)) < 0;
        return between && below ? 1 : 0;
    }

    int holes() {
        if (noMiddle()) return NO;
        int best = NONE;
        Fraction least = null;
        for (int p = 0; p < corners.size(); p++) {
            for (int q = p + 1; q < corners.size(); q++) {
                int[] one = corners.get(p), two = corners.get(q);
                if (steady(one[0], one[1], two[0], two[1]) != 1) continue;
                Fraction tilt = tiltOf(one[0], two[0]);
                Fraction size = Fraction.of(tilt.above.abs(), tilt.below);
                if (least == null || size.compare(least) < 0) {
                    least = size;
                    best = 10 * p + q;
                }
            }
        }
        return best;
    }

    int count(int what) {
        if (out(what, 0, 8)) return BAD;
        return new int[] {men.size(), ropes.size(), row.size(), stones.size(), stands.size(), corners.size(),
            frosts.size(), c, m}[what];
    }

    long digest() {
        List<Integer> all = new ArrayList<>();
        for (int what = 0; what < 9; what++) all.add(count(what));
        all.addAll(List.of(w, s, a, f, r, t, reachX, reachZ));
        for (Man man : men) all.addAll(List.of(man.weight, man.breath));
        for (int i = 0; i < ropes.size(); i++) for (int what = 0; what < 5; what++) all.add(about(i, what));
        all.addAll(row);
        for (Stone it : stones) all.addAll(List.of(it.x, it.z, it.hours, it.rests, it.key));
        for (Stand it : stands) all.addAll(List.of(it.x, it.z, it.needs));
        for (int i = 0; i < stands.size(); i++) for (int j = i + 1; j < stands.size(); j++) all.add(priceOf(i, j));
        for (int day = 0; day < 80; day++) all.add(light[day]);
        for (int[] it : corners) all.addAll(List.of(it[0], it[1]));
        long h = 271;
        for (int v : all) h = 31 * h + v;
        return h;
    }
}
