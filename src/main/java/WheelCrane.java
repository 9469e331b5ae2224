import java.util.Arrays;

/**
 * A crane whose men walk in a drum, the wall that it builds and the days that the building takes.
 * Every call answers a number; a refused call (BAD, NO, FULL) changes nothing.
 */
public final class WheelCrane {
    public static final int NONE = -1, BAD = -2, NO = -3, FULL = -4;

    private static final int MOST_LOAD = 50000;
    private static final int MOST_HEIGHT = 20000;
    private static final int MOST_STEPS = 20000;
    private static final int LEAST_STRENGTH = 100;
    private static final int MOST_STRENGTH = 50000;
    private static final int MOST_X = 30;
    private static final int MOST_COURSE = 12;
    private static final int MOST_CORNER = 1000;

    private static final int ROPE_PARTED = -10;
    private static final long LONG_BAD = -2000000000L;
    private static final long LONG_NO = -3000000000L;

    /** What some men are to a load: too light, able, or able but one would be spent midway. */
    private static final int TOO_LIGHT = 0, ABLE = 1, SPENT = 2;

    private final Drum drum;
    private final Crew crew;
    private final Ropes ropes;
    private final Row row;
    private final Stones stones;
    private final Stands stands;
    private final Planner planner;
    private final Calendar calendar;
    private final Outline outline;

    public WheelCrane() {
        drum = new Drum();
        crew = new Crew();
        ropes = new Ropes();
        row = new Row();
        stones = new Stones();
        stands = new Stands();
        planner = new Planner(stones, stands);
        calendar = new Calendar(stones);
        outline = new Outline();
    }

    // ---- the wheel, men

    public int wheel(int w, int s, int a, int f) {
        boolean good = within(w, 100, 2000) && within(s, 10, 60)
                && within(a, 10, 200) && within(f, 0, 100);
        if (!good) {
            return BAD;
        }
        drum.girth = w;
        drum.stepsOfTurn = s;
        drum.axle = a;
        drum.friction = f;
        return 1;
    }

    public int winds(int r, int t) {
        if (!within(r, 0, 10) || !within(t, 1, 20)) {
            return BAD;
        }
        drum.thickness = r;
        drum.turnsOfLayer = t;
        return 1;
    }

    public int lift(int q) {
        return within(q, 0, MOST_STEPS) ? drum.liftOf(q) : BAD;
    }

    public int steps(int h) {
        return within(h, 0, MOST_HEIGHT) ? drum.stepsFor(h) : BAD;
    }

    public int layer(int q, int what) {
        if (!within(q, 0, MOST_STEPS) || !within(what, 0, 1)) {
            return BAD;
        }
        int last = drum.lastLayer(q);
        return what == 0 ? last : drum.girthOfLayer(last);
    }

    public int man(int weight) {
        return within(weight, 40, 150) ? crew.join(weight) : BAD;
    }

    public int breath(int man) {
        return within(man, 0, crew.size - 1) ? crew.breaths[man] : BAD;
    }

    public int rest(int n) {
        if (!within(n, 1, 1000)) {
            return BAD;
        }
        crew.recover(2 * n);
        return 1;
    }

    public int can(int men, int load, int h) {
        if (!within(men, 0, crew.everyone()) || !isLift(load, h)) {
            return BAD;
        }
        return ability(men, load, drum.stepsFor(h));
    }

    public int fewest(int load, int h) {
        if (!isLift(load, h)) {
            return BAD;
        }
        int steps = drum.stepsFor(h);
        int everyone = crew.everyone();
        int best = NONE;
        for (int men = 1; men <= everyone; men++) {
            if (ability(men, load, steps) == ABLE && (best == NONE || crew.isLeaner(men, best))) {
                best = men;
            }
        }
        return best;
    }

    public int hoist(int men, int rope, int load, int h) {
        boolean good = within(men, 0, crew.everyone())
                && within(rope, NONE, ropes.size - 1) && isLift(load, h);
        if (!good) {
            return BAD;
        }
        int steps = drum.stepsFor(h);
        if (ability(men, load, steps) != ABLE) {
            return NO;
        }
        if (rope != NONE) {
            if (ropes.parted[rope]) {
                return NO;
            }
            if (!ropes.survives(rope, load)) {
                return ROPE_PARTED;
            }
        }
        crew.spend(men, costOf(load, steps));
        return steps;
    }

    private int ability(int men, int load, int steps) {
        if (!drum.isTurnedBy(crew.weightOf(men), load, steps)) {
            return TOO_LIGHT;
        }
        return crew.haveBreath(men, costOf(load, steps)) ? ABLE : SPENT;
    }

    private static int costOf(int load, int steps) {
        return steps * (1 + load / 1000);
    }

    private static boolean isLoad(int load) {
        return within(load, 1, MOST_LOAD);
    }

    private static boolean isLift(int load, int h) {
        return isLoad(load) && within(h, 0, MOST_HEIGHT);
    }

    // ---- ropes

    public int rope(int strength) {
        return isStrength(strength) ? ropes.bring(strength) : BAD;
    }

    public int wet(int rope, boolean is) {
        if (!within(rope, 0, ropes.size - 1)) {
            return BAD;
        }
        if (ropes.soaked[rope] == is) {
            return NO;
        }
        ropes.soaked[rope] = is;
        return 1;
    }

    public int about(int rope, int what) {
        if (!within(rope, 0, ropes.size - 1) || !within(what, 0, 4)) {
            return BAD;
        }
        return ropes.tell(rope, what);
    }

    public int pull(int rope, int load) {
        if (!within(rope, 0, ropes.size - 1) || !isLoad(load)) {
            return BAD;
        }
        if (ropes.parted[rope]) {
            return NO;
        }
        return ropes.survives(rope, load) ? 1 : 0;
    }

    public int load(int v) {
        return isLoad(v) ? row.append(v) : BAD;
    }

    public int clear() {
        int had = row.size;
        row.size = 0;
        return had;
    }

    public int bears(int strength) {
        return isStrength(strength) ? row.firstParting(strength) : BAD;
    }

    public int blamed(int strength, int k) {
        if (!isStrength(strength) || !within(k, 0, row.size - 1)) {
            return BAD;
        }
        int parts = row.firstParting(strength);
        if (parts != NONE && parts <= k) {
            return NO;
        }
        return row.leastBlame(strength, k);
    }

    private static boolean isStrength(int strength) {
        return within(strength, LEAST_STRENGTH, MOST_STRENGTH);
    }

    // ---- stones, stands, plans

    public int stone(int x, int z, int hours, int rests) {
        boolean good = isPlace(x, z) && within(hours, 1, 12) && within(rests, 0, stones.all());
        if (!good) {
            return BAD;
        }
        forgetPlan();
        return stones.bring(x, z, hours, rests);
    }

    public int arched(int stone, int key) {
        if (!isStone(stone) || !isStone(key) || stone == key) {
            return BAD;
        }
        if (stones.keys[stone] != NONE) {
            return NO;
        }
        forgetPlan();
        stones.arch(stone, key);
        return 1;
    }

    public int centrings(int c) {
        if (!within(c, 0, 5)) {
            return BAD;
        }
        forgetPlan();
        int was = stones.centrings;
        stones.centrings = c;
        return was;
    }

    public int stand(int x, int z, int needs) {
        if (!isPlace(x, z) || !within(needs, 0, Stones.EVERY)) {
            return BAD;
        }
        forgetPlan();
        return stands.build(x, z, needs);
    }

    public int price(int a, int b, int v) {
        if (!isStand(a) || !isStand(b) || a == b || !within(v, 1, 100)) {
            return BAD;
        }
        forgetPlan();
        return stands.setPrice(a, b, v);
    }

    public int reach(int r, int h) {
        if (!within(r, 1, 30) || !within(h, 1, 12)) {
            return BAD;
        }
        forgetPlan();
        stands.sideways = r;
        stands.upwards = h;
        return 1;
    }

    public int reaches(int stand, int stone) {
        if (!isStand(stand) || !isStone(stone)) {
            return BAD;
        }
        return stands.isNear(stand, stones.xs[stone], stones.courses[stone]) ? 1 : 0;
    }

    public int may(int set, int stone) {
        if (!within(set, 0, stones.all()) || !isStone(stone)) {
            return BAD;
        }
        boolean lies = stones.isBorne(stone, set) && stones.isCentred(set | 1 << stone);
        return lies ? 1 : 0;
    }

    public long orders() {
        return planner.ordersOfAll();
    }

    public int plan() {
        return stands.size == 0 ? NO : planner.leastPrice();
    }

    public int act(int i) {
        if (i < 0) {
            return BAD;
        }
        return stands.size == 0 ? NO : planner.actAt(i);
    }

    private boolean isStone(int stone) {
        return within(stone, 0, stones.size - 1);
    }

    private boolean isStand(int stand) {
        return within(stand, 0, stands.size - 1);
    }

    private static boolean isPlace(int x, int z) {
        return within(x, 0, MOST_X) && within(z, 0, MOST_COURSE);
    }

    /** The days follow the order of the plan, so they are forgotten with it. */
    private void forgetPlan() {
        planner.forget();
        calendar.forget();
    }

    // ---- days

    public int light(int from, int to, int hours) {
        boolean good = from >= 0 && from <= to && to < Calendar.DAYS && within(hours, 0, 16);
        if (!good) {
            return BAD;
        }
        calendar.forget();
        calendar.setLight(from, to, hours);
        return 1;
    }

    public int frost(int day, boolean is) {
        if (!within(day, 0, Calendar.DAYS - 1)) {
            return BAD;
        }
        if (calendar.frozen[day] == is) {
            return NO;
        }
        calendar.forget();
        calendar.frozen[day] = is;
        return 1;
    }

    public int mortar(int m) {
        if (!within(m, 0, 10)) {
            return BAD;
        }
        calendar.forget();
        int was = calendar.drying;
        calendar.drying = m;
        return was;
    }

    public int laid(int stone) {
        if (!isStone(stone)) {
            return BAD;
        }
        planner.orderInto(calendar.order);
        calendar.endWith(NONE, NONE);
        return calendar.laidOn[stone];
    }

    public int end() {
        if (stones.size == 0) {
            return NONE;
        }
        planner.orderInto(calendar.order);
        int last = calendar.endWith(NONE, NONE);
        return last == Calendar.BEYOND ? NONE : last;
    }

    public int worst(int f, int what, int i) {
        if (!within(f, 0, 2) || !within(what, 0, 1) || what == 1 && i < 0) {
            return BAD;
        }
        if (stones.size == 0) {
            return NONE;
        }
        planner.orderInto(calendar.order);
        calendar.findWorst(f);
        return what == 0 ? calendar.worstEnd : calendar.worstDay(i);
    }

    // ---- shapes

    public int shape() {
        int had = outline.size;
        outline.size = 0;
        return had;
    }

    public int corner(int x, int y) {
        return isCorner(x, y) ? outline.append(x, y) : BAD;
    }

    public int area() {
        return outline.size < Outline.LEAST_CORNERS ? NO : (int) Math.abs(outline.twiceArea());
    }

    public long middle(int what) {
        if (!within(what, 0, 3)) {
            return LONG_BAD;
        }
        if (!outline.hasMiddle()) {
            return LONG_NO;
        }
        long above = what < 2 ? outline.middleX() : outline.middleY();
        return ofLowest(above, outline.middleBelow(), what % 2);
    }

    public long tilt(int x, int y, int x2, int y2, int what) {
        if (!isCorner(x, y) || !isCorner(x2, y2) || !within(what, 0, 1)) {
            return LONG_BAD;
        }
        if (!outline.hasMiddle()) {
            return LONG_NO;
        }
        return ofLowest(outline.tiltAbove(x, x2), 2 * outline.middleBelow(), what);
    }

    public int steady(int x, int y, int x2, int y2) {
        if (!isCorner(x, y) || !isCorner(x2, y2)) {
            return BAD;
        }
        if (!outline.hasMiddle()) {
            return NO;
        }
        return outline.hangsSteady(x, y, x2, y2) ? 1 : 0;
    }

    public int holes() {
        return outline.hasMiddle() ? outline.bestHoles() : NO;
    }

    public int count(int what) {
        switch (what) {
            case 0: return crew.size;
            case 1: return ropes.size;
            case 2: return row.size;
            case 3: return stones.size;
            case 4: return stands.size;
            case 5: return outline.size;
            case 6: return calendar.frostDays();
            case 7: return stones.centrings;
            case 8: return calendar.drying;
            default: return BAD;
        }
    }

    public long digest() {
        long h = 271;
        for (int what = 0; what <= 8; what++) {
            h = 31 * h + count(what);
        }
        h = drum.mixInto(h);
        h = 31 * h + stands.sideways;
        h = 31 * h + stands.upwards;
        h = crew.mixInto(h);
        h = ropes.mixInto(h);
        h = row.mixInto(h);
        h = stones.mixInto(h);
        h = stands.mixInto(h);
        h = calendar.mixInto(h);
        return outline.mixInto(h);
    }

    private static boolean isCorner(int x, int y) {
        return within(x, 0, MOST_CORNER) && within(y, 0, MOST_CORNER);
    }

    // ---- numbers

    private static boolean within(int v, int least, int most) {
        return v >= least && v <= most;
    }

    /** The quotient, cut; no divisor of this program is ever 0, and the machine need not trust that. */
    private static long cut(long above, long below) {
        return below == 0 ? 0 : above / below;
    }

    /** What is above (part 0) or below (part 1) in the lowest terms of a fraction with below over 0. */
    private static long ofLowest(long above, long below, int part) {
        long common = commonDivisor(Math.abs(above), below);
        return cut(part == 0 ? above : below, common);
    }

    private static long commonDivisor(long a, long b) {
        long big = a;
        long small = b;
        // Euclid's rests at least halve in two rounds: a long needs fewer than 130.
        for (int round = 0; round < 200 && small != 0; round++) {
            long rest = big % small;
            big = small;
            small = rest;
        }
        return big;
    }

    /** The wheel, its axle and the rope that winds on it. */
    private static final class Drum {
        int girth = 1000;
        int stepsOfTurn = 40;
        int axle = 60;
        int friction = 10;
        int thickness = 2;
        int turnsOfLayer = 5;

        int girthOfLayer(int layer) {
            return axle + 6 * thickness * layer;
        }

        int liftOf(int steps) {
            int turns = (int) cut(steps, stepsOfTurn);
            int layers = (int) cut(turns, turnsOfLayer);
            int girthNow = girthOfLayer(layers);
            int stepsLeft = steps - turns * stepsOfTurn;
            return liftOfLayers(layers) + (turns - layers * turnsOfLayer) * girthNow
                    + (int) cut((long) stepsLeft * girthNow, stepsOfTurn);
        }

        private int liftOfLayers(int layers) {
            return turnsOfLayer * (layers * axle + 3 * thickness * layers * (layers - 1));
        }

        int stepsFor(int height) {
            if (height <= 0) {
                return 0;
            }
            int layer = 0;
            int left = height;
            // A layer lifts 10 at least, so that no height needs more layers than this.
            while (layer <= MOST_HEIGHT / 10 && left > turnsOfLayer * girthOfLayer(layer)) {
                left -= turnsOfLayer * girthOfLayer(layer);
                layer++;
            }
            int girthNow = girthOfLayer(layer);
            int turns = (int) cut(left - 1, girthNow);
            left -= turns * girthNow;
            int lastSteps = (int) cut((long) left * stepsOfTurn + girthNow - 1, girthNow);
            return (layer * turnsOfLayer + turns) * stepsOfTurn + lastSteps;
        }

        int lastLayer(int steps) {
            return steps <= 0 ? 0 : (int) cut(steps - 1, stepsOfTurn * turnsOfLayer);
        }

        boolean isTurnedBy(int weight, int load, int steps) {
            long needed = (long) load * girthOfLayer(lastLayer(steps)) * (100 + friction);
            return (long) weight * girth * 100 >= needed;
        }

        long mixInto(long hash) {
            long h = 31 * hash + girth;
            h = 31 * h + stepsOfTurn;
            h = 31 * h + axle;
            h = 31 * h + friction;
            h = 31 * h + thickness;
            return 31 * h + turnsOfLayer;
        }
    }

    /** The men who walk in the drum; some of them are told as bits. */
    private static final class Crew {
        private static final int MOST = 8;
        private static final int MOST_BREATH = 5000;

        final int[] weights = new int[MOST];
        final int[] breaths = new int[MOST];
        int size;

        int join(int weight) {
            if (size >= MOST) {
                return FULL;
            }
            weights[size] = weight;
            breaths[size] = 1000;
            size++;
            return size - 1;
        }

        int everyone() {
            return (1 << size) - 1;
        }

        int weightOf(int men) {
            int sum = 0;
            for (int i = 0; i < size; i++) {
                sum += (men >> i & 1) * weights[i];
            }
            return sum;
        }

        boolean haveBreath(int men, int cost) {
            for (int i = 0; i < size; i++) {
                if ((men >> i & 1) == 1 && breaths[i] < cost) {
                    return false;
                }
            }
            return true;
        }

        boolean isLeaner(int men, int others) {
            int more = Integer.bitCount(men) - Integer.bitCount(others);
            return more < 0 || more == 0 && weightOf(men) < weightOf(others);
        }

        void spend(int men, int cost) {
            for (int i = 0; i < size; i++) {
                breaths[i] -= (men >> i & 1) * cost;
            }
        }

        void recover(int breath) {
            for (int i = 0; i < size; i++) {
                breaths[i] = Math.min(MOST_BREATH, breaths[i] + breath);
            }
        }

        long mixInto(long hash) {
            long h = hash;
            for (int i = 0; i < size; i++) {
                h = 31 * h + weights[i];
                h = 31 * h + breaths[i];
            }
            return h;
        }
    }

    /** The ropes that are there, and the rules of holding and wear for any rope. */
    private static final class Ropes {
        private static final int MOST = 6;

        final int[] strengths = new int[MOST];
        final int[] wears = new int[MOST];
        final boolean[] soaked = new boolean[MOST];
        final boolean[] parted = new boolean[MOST];
        int size;

        static int heldDry(int strength, int wear) {
            return strength * Math.max(0, 1000 - wear) / 1000;
        }

        static int wearBy(int strength, int load) {
            int share = (int) cut(load * 100L, strength);
            return 1 + share * share / 1000;
        }

        int bring(int strength) {
            if (size >= MOST) {
                return FULL;
            }
            strengths[size] = strength;
            size++;
            return size - 1;
        }

        int held(int rope) {
            if (parted[rope]) {
                return 0;
            }
            int dry = heldDry(strengths[rope], wears[rope]);
            return soaked[rope] ? dry * 3 / 4 : dry;
        }

        /** Pulls a whole rope: it wears, or parts. */
        boolean survives(int rope, int load) {
            if (load > held(rope)) {
                parted[rope] = true;
                return false;
            }
            wears[rope] += wearBy(strengths[rope], load);
            return true;
        }

        int tell(int rope, int what) {
            switch (what) {
                case 0: return strengths[rope];
                case 1: return wears[rope];
                case 2: return soaked[rope] ? 1 : 0;
                case 3: return parted[rope] ? 1 : 0;
                default: return held(rope);
            }
        }

        long mixInto(long hash) {
            long h = hash;
            for (int i = 0; i < size; i++) {
                for (int what = 0; what <= 4; what++) {
                    h = 31 * h + tell(i, what);
                }
            }
            return h;
        }
    }

    /** The row of loads that is told of a new, dry rope. */
    private static final class Row {
        private static final int MOST = 12;

        final int[] loads = new int[MOST];
        int size;

        int append(int load) {
            if (size >= MOST) {
                return FULL;
            }
            loads[size] = load;
            size++;
            return size;
        }

        int firstParting(int strength) {
            int wear = 0;
            for (int i = 0; i < size; i++) {
                if (loads[i] > Ropes.heldDry(strength, wear)) {
                    return i;
                }
                wear += Ropes.wearBy(strength, loads[i]);
            }
            return NONE;
        }

        int leastBlame(int strength, int k) {
            return blame(loads, strength, k, 0, 0, 0, NONE);
        }

        /**
         * The best set among the one known and those that go on from load i, of a rope that is worn
         * so far and with a set of doubled loads ahead of i. Depth: i rises to k, 11 at most.
         */
        private static int blame(int[] loads, int strength, int k, int i, int wear, int set, int known) {
            if (i > k || i >= loads.length || known != NONE && Integer.bitCount(set) > Integer.bitCount(known)) {
                return known;
            }
            int best = known;
            for (int twice = 0; twice <= 1; twice++) {
                int load = loads[i] << twice;
                int doubled = set | twice << i;
                boolean parts = load > Ropes.heldDry(strength, wear);
                if (parts && i == k) {
                    best = lesser(doubled, best);
                } else if (!parts && i < k) {
                    int worn = wear + Ropes.wearBy(strength, load);
                    best = blame(loads, strength, k, i + 1, worn, doubled, best);
                }
            }
            return best;
        }

        private static int lesser(int set, int known) {
            if (known == NONE) {
                return set;
            }
            int more = Integer.bitCount(set) - Integer.bitCount(known);
            return more < 0 || more == 0 && set < known ? set : known;
        }

        long mixInto(long hash) {
            long h = hash;
            for (int i = 0; i < size; i++) {
                h = 31 * h + loads[i];
            }
            return h;
        }
    }

    /** The stones of the wall and the rules of laying them; sets of stones are bits. */
    private static final class Stones {
        private static final int MOST = 14;
        private static final int EVERY = (1 << MOST) - 1;

        final int[] xs = new int[MOST];
        final int[] courses = new int[MOST];
        final int[] hours = new int[MOST];
        final int[] rests = new int[MOST];
        final int[] keys = new int[MOST];
        /** For each stone those of which it is the key. */
        private final int[] freed = new int[MOST];
        private int everyKey;
        int size;
        int centrings = 1;

        int bring(int x, int course, int work, int restsOn) {
            if (size >= MOST) {
                return FULL;
            }
            xs[size] = x;
            courses[size] = course;
            hours[size] = work;
            rests[size] = restsOn;
            keys[size] = NONE;
            size++;
            return size - 1;
        }

        void arch(int stone, int key) {
            keys[stone] = key;
            freed[key] |= 1 << stone;
            everyKey |= 1 << key;
        }

        int all() {
            return (1 << size) - 1;
        }

        /** Whether a stone is not laid yet, but all on which it rests are. */
        boolean isBorne(int stone, int set) {
            return (set >> stone & 1) == 0 && (rests[stone] & ~set) == 0;
        }

        /** Whether the centrings are enough for a set of laid stones. */
        boolean isCentred(int set) {
            int missing = everyKey & ~set;
            int arches = 0;
            for (int key = 0; missing != 0 && key < size; key++) {
                if ((missing >> key & 1) == 1 && (freed[key] & set) != 0) {
                    arches++;
                }
            }
            return arches <= centrings;
        }

        long mixInto(long hash) {
            long h = hash;
            for (int i = 0; i < size; i++) {
                h = 31 * h + xs[i];
                h = 31 * h + courses[i];
                h = 31 * h + hours[i];
                h = 31 * h + rests[i];
                h = 31 * h + keys[i];
            }
            return h;
        }
    }

    /** Where the crane may stand, and what shifts between stands cost. */
    private static final class Stands {
        private static final int MOST = 5;

        final int[] xs = new int[MOST];
        final int[] courses = new int[MOST];
        final int[] needs = new int[MOST];
        final int[][] prices = new int[MOST][MOST];
        int size;
        int sideways = 8;
        int upwards = 4;

        Stands() {
            for (int a = 0; a < MOST; a++) {
                for (int b = 0; b < MOST; b++) {
                    prices[a][b] = 1;
                }
            }
        }

        int build(int x, int course, int needed) {
            if (size >= MOST) {
                return FULL;
            }
            xs[size] = x;
            courses[size] = course;
            needs[size] = needed;
            size++;
            return size - 1;
        }

        int setPrice(int a, int b, int v) {
            int was = prices[a][b];
            prices[a][b] = v;
            prices[b][a] = v;
            return was;
        }

        boolean isNear(int stand, int x, int course) {
            return Math.abs(xs[stand] - x) <= sideways && course <= courses[stand] + upwards;
        }

        boolean isBuilt(int stand, int set) {
            return (needs[stand] & ~set) == 0;
        }

        long mixInto(long hash) {
            long h = hash;
            for (int i = 0; i < size; i++) {
                h = 31 * h + xs[i];
                h = 31 * h + courses[i];
                h = 31 * h + needs[i];
            }
            for (int a = 0; a < size; a++) {
                for (int b = a + 1; b < size; b++) {
                    h = 31 * h + prices[a][b];
                }
            }
            return h;
        }
    }

    /** Orders and the plan, found over all sets of laid stones and kept till something changes. */
    private static final class Planner {
        private static final int FAR = 1000000;
        private static final int SHIFT = 100;
        /** Each stone is laid after four shifts at most: prices are above 0, so no stand comes twice. */
        private static final int MOST_ACTS = Stones.MOST * Stands.MOST;

        private final Stones stones;
        private final Stands stands;
        /** In how many orders each set comes to be laid; 0 of sets that can't be. */
        private long[] ways = new long[1];
        /** The least price to finish from each set with the crane at each stand. */
        private int[] costs = new int[Stands.MOST];
        private final int[] near = new int[Stands.MOST];
        private final int[] acts = new int[MOST_ACTS];
        private int actCount;
        private boolean isCounted;
        private boolean isPlanned;

        Planner(Stones stones, Stands stands) {
            this.stones = stones;
            this.stands = stands;
        }

        void forget() {
            isCounted = false;
            isPlanned = false;
        }

        long ordersOfAll() {
            countWays();
            return ways[stones.all()];
        }

        int leastPrice() {
            makePlan();
            return costs[0] >= FAR ? NONE : costs[0];
        }

        int actAt(int i) {
            makePlan();
            return i >= 0 && i < actCount ? acts[i] : NONE;
        }

        /** Fills in the order of laying: that of the plan, or if there is none by numbers. */
        void orderInto(int[] order) {
            boolean planned = stands.size > 0 && leastPrice() != NONE;
            int laid = 0;
            for (int i = 0; planned && i < actCount; i++) {
                if (acts[i] < SHIFT && laid < order.length) {
                    order[laid] = acts[i];
                    laid++;
                }
            }
            for (int i = 0; !planned && i < stones.size && i < order.length; i++) {
                order[i] = i;
            }
        }

        private void countWays() {
            if (isCounted) {
                return;
            }
            isCounted = true;
            int all = stones.all();
            if (ways.length <= all) {
                ways = new long[all + 1];
            }
            Arrays.fill(ways, 0L);
            ways[0] = 1;
            for (int set = 0; set <= all; set++) {
                if (ways[set] != 0 && !stones.isCentred(set)) {
                    ways[set] = 0;
                }
                for (int i = 0; ways[set] != 0 && i < stones.size; i++) {
                    if (stones.isBorne(i, set)) {
                        ways[set | 1 << i] += ways[set];
                    }
                }
            }
        }

        private void makePlan() {
            if (isPlanned) {
                return;
            }
            countWays();
            isPlanned = true;
            int all = stones.all();
            if (costs.length < (all + 1) * Stands.MOST) {
                costs = new int[(all + 1) * Stands.MOST];
            }
            findNear();
            for (int s = 0; s < stands.size; s++) {
                costs[place(all, s)] = 0;
            }
            for (int set = all - 1; set >= 0; set--) {
                if (ways[set] != 0) {
                    priceByLaying(set);
                    priceByShifting(set);
                }
            }
            trace(all);
        }

        private void findNear() {
            for (int s = 0; s < stands.size; s++) {
                near[s] = 0;
                for (int i = 0; i < stones.size; i++) {
                    if (stands.isNear(s, stones.xs[i], stones.courses[i])) {
                        near[s] |= 1 << i;
                    }
                }
            }
        }

        private int place(int set, int stand) {
            return set * Stands.MOST + stand;
        }

        private boolean canLay(int stone, int set) {
            return stones.isBorne(stone, set) && ways[set | 1 << stone] != 0;
        }

        private void priceByLaying(int set) {
            int open = 0;
            for (int i = 0; i < stones.size; i++) {
                open |= canLay(i, set) ? 1 << i : 0;
            }
            for (int s = 0; s < stands.size; s++) {
                costs[place(set, s)] = leastAfterLaying(set, s, open & near[s]);
            }
        }

        private int leastAfterLaying(int set, int stand, int open) {
            int least = FAR;
            for (int i = 0; open != 0 && least > 0 && i < stones.size; i++) {
                if ((open >> i & 1) == 1) {
                    least = Math.min(least, costs[place(set | 1 << i, stand)]);
                }
            }
            return least;
        }

        /** Each round makes ways one shift longer good; no way needs more shifts than there are stands. */
        private void priceByShifting(int set) {
            boolean isBetter = true;
            for (int round = 0; isBetter && round < stands.size; round++) {
                isBetter = false;
                for (int to = 0; to < stands.size; to++) {
                    if (stands.isBuilt(to, set) && priceThrough(set, to)) {
                        isBetter = true;
                    }
                }
            }
        }

        private boolean priceThrough(int set, int to) {
            boolean isBetter = false;
            int there = costs[place(set, to)];
            for (int from = 0; from < stands.size; from++) {
                int here = place(set, from);
                int cost = stands.prices[from][to] + there;
                if (from != to && cost < costs[here]) {
                    costs[here] = cost;
                    isBetter = true;
                }
            }
            return isBetter;
        }

        /** Takes the least act that keeps the price, each time: so the row is the first of like ones. */
        private void trace(int all) {
            actCount = 0;
            int set = 0;
            int stand = 0;
            while (costs[0] < FAR && set != all && actCount < MOST_ACTS) {
                int next = leastAct(set, stand);
                if (next == NONE) {
                    return;
                }
                acts[actCount] = next;
                actCount++;
                if (next >= SHIFT) {
                    stand = next - SHIFT;
                } else {
                    set |= 1 << next;
                }
            }
        }

        private int leastAct(int set, int stand) {
            int cost = costs[place(set, stand)];
            for (int i = 0; i < stones.size; i++) {
                boolean isNear = (near[stand] >> i & 1) == 1;
                if (isNear && canLay(i, set) && costs[place(set | 1 << i, stand)] == cost) {
                    return i;
                }
            }
            for (int to = 0; to < stands.size; to++) {
                boolean mayShift = to != stand && stands.isBuilt(to, set);
                if (mayShift && stands.prices[stand][to] + costs[place(set, to)] == cost) {
                    return SHIFT + to;
                }
            }
            return NONE;
        }
    }

    /** The days, and on which of them the stones are laid. */
    private static final class Calendar {
        private static final int DAYS = 80;
        private static final int WORST_DAYS = 60;
        /** The end of what is not laid by the last day: later than any. */
        private static final int BEYOND = 80;

        private final Stones stones;
        final int[] lights = new int[DAYS];
        final boolean[] frozen = new boolean[DAYS];
        int drying = 2;
        /** How many days without frost there are ahead of each day. */
        private final int[] thawed = new int[DAYS + 1];
        /** The stones as they are laid: the planner fills it ahead of each question. */
        final int[] order = new int[Stones.MOST];
        /** On which day each stone came to be laid, when it was last tried. */
        final int[] laidOn = new int[Stones.MOST];
        /** For how many days of frost the worst is known (NONE: not known), and what it is. */
        private int worstKnown = NONE;
        int worstEnd;
        private int worstFirst;
        private int worstSecond;

        Calendar(Stones stones) {
            this.stones = stones;
            Arrays.fill(lights, 8);
        }

        void forget() {
            worstKnown = NONE;
        }

        void setLight(int from, int to, int hours) {
            for (int day = from; day <= to && day < DAYS; day++) {
                lights[day] = hours;
            }
        }

        int frostDays() {
            int sum = 0;
            for (int day = 0; day < DAYS; day++) {
                sum += frozen[day] ? 1 : 0;
            }
            return sum;
        }

        int worstDay(int i) {
            if (worstEnd == NONE || i >= worstKnown) {
                return NONE;
            }
            return i == 0 ? worstFirst : worstSecond;
        }

        /** Lays all stones, with two days (or NONE) frozen besides: the day of the last one. */
        int endWith(int first, int second) {
            countThawed(first, second);
            int day = 0;
            int hoursLeft = workOn(0);
            for (int k = 0; k < stones.size; k++) {
                int stone = order[k];
                int work = stones.hours[stone];
                int bed = lastBed(stone);
                while (day < DAYS && (hoursLeft < work || thawedBetween(bed, day) < drying)) {
                    day++;
                    hoursLeft = workOn(day);
                }
                if (day >= DAYS) {
                    layOnNone(k);
                    return BEYOND;
                }
                laidOn[stone] = day;
                hoursLeft -= work;
            }
            return day;
        }

        private void countThawed(int first, int second) {
            for (int day = 0; day < DAYS; day++) {
                boolean isFrost = frozen[day] || day == first || day == second;
                thawed[day + 1] = thawed[day] + (isFrost ? 0 : 1);
            }
        }

        private int workOn(int day) {
            return day < DAYS && thawed[day + 1] > thawed[day] ? lights[day] : 0;
        }

        /** The last day of those on which a stone rests: the mortar of all others is older. */
        private int lastBed(int stone) {
            int last = NONE;
            for (int i = 0; i < stones.size; i++) {
                if ((stones.rests[stone] >> i & 1) == 1) {
                    last = Math.max(last, laidOn[i]);
                }
            }
            return last;
        }

        private int thawedBetween(int bed, int day) {
            if (bed == NONE) {
                return drying;
            }
            return day > bed ? thawed[day] - thawed[bed + 1] : 0;
        }

        private void layOnNone(int from) {
            for (int k = from; k < stones.size; k++) {
                laidOn[order[k]] = NONE;
            }
        }

        void findWorst(int f) {
            if (worstKnown == f) {
                return;
            }
            worstKnown = f;
            worstEnd = NONE;
            int plain = endWith(NONE, NONE);
            if (f == 0) {
                worstEnd = plain;
            }
            for (int day = 0; f > 0 && day < WORST_DAYS && worstEnd != BEYOND; day++) {
                if (frozen[day]) {
                    continue;
                }
                if (f == 1) {
                    tryFrost(day, NONE);
                } else {
                    trySecond(day);
                }
                // Frost behind the end changes nothing: later days are but like ones.
                if (day > plain) {
                    break;
                }
            }
        }

        private void trySecond(int first) {
            int endOfOne = endWith(first, NONE);
            for (int day = first + 1; day < WORST_DAYS && worstEnd != BEYOND; day++) {
                if (frozen[day]) {
                    continue;
                }
                tryFrost(first, day);
                if (day > endOfOne) {
                    break;
                }
            }
        }

        private void tryFrost(int first, int second) {
            int end = endWith(first, second);
            if (end > worstEnd) {
                worstEnd = end;
                worstFirst = first;
                worstSecond = second;
            }
        }

        long mixInto(long hash) {
            long h = hash;
            for (int day = 0; day < DAYS; day++) {
                h = 31 * h + lights[day];
            }
            return h;
        }
    }

    /** The shape of a stone that hangs by two irons. */
    private static final class Outline {
        private static final int MOST = 8;
        private static final int LEAST_CORNERS = 3;

        final int[] xs = new int[MOST];
        final int[] ys = new int[MOST];
        int size;

        int append(int x, int y) {
            if (size >= MOST) {
                return FULL;
            }
            xs[size] = x;
            ys[size] = y;
            size++;
            return size;
        }

        private int after(int corner) {
            return corner + 1 < size ? corner + 1 : 0;
        }

        private long cross(int corner) {
            int next = after(corner);
            return (long) xs[corner] * ys[next] - (long) xs[next] * ys[corner];
        }

        /** Below 0, if the corners go round with the sun. */
        long twiceArea() {
            long sum = 0;
            for (int i = 0; i < size; i++) {
                sum += cross(i);
            }
            return sum;
        }

        boolean hasMiddle() {
            return size >= LEAST_CORNERS && twiceArea() != 0;
        }

        long middleX() {
            return middleAbove(xs);
        }

        long middleY() {
            return middleAbove(ys);
        }

        long middleBelow() {
            return 3 * Math.abs(twiceArea());
        }

        private long middleAbove(int[] places) {
            long sum = 0;
            for (int i = 0; i < size; i++) {
                sum += (places[i] + places[after(i)]) * cross(i);
            }
            return twiceArea() < 0 ? -sum : sum;
        }

        /** What of the tilt is above twice the middle's own number below. */
        long tiltAbove(int x, int x2) {
            return 2 * middleX() - middleBelow() * (x + x2);
        }

        boolean hangsSteady(int x, int y, int x2, int y2) {
            long below = middleBelow();
            long across = middleX();
            return Math.min(x, x2) * below <= across && across <= Math.max(x, x2) * below
                    && middleY() < Math.min(y, y2) * below;
        }

        int bestHoles() {
            int best = NONE;
            long leastTilt = 0;
            for (int p = 0; p < size; p++) {
                for (int q = p + 1; q < size; q++) {
                    long tilted = Math.abs(tiltAbove(xs[p], xs[q]));
                    boolean isBetter = best == NONE || tilted < leastTilt;
                    if (isBetter && hangsSteady(xs[p], ys[p], xs[q], ys[q])) {
                        best = 10 * p + q;
                        leastTilt = tilted;
                    }
                }
            }
            return best;
        }

        long mixInto(long hash) {
            long h = hash;
            for (int i = 0; i < size; i++) {
                h = 31 * h + xs[i];
                h = 31 * h + ys[i];
            }
            return h;
        }
    }
}
