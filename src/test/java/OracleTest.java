import java.lang.reflect.Method;
import java.util.HashMap;
import java.util.Map;

/** Long runs of mixed calls, the same ones on the program and on the oracle: every answer alike. */
public final class OracleTest {
    private static final int MOST_CALLS = 512;

    /** A name of a call, behind it the least and the most of each number; letters depend on the state. */
    private static final String[] WHEEL = {
        "wheel 100:2000 10:60 10:200 0:100", "winds 0:10 1:20", "lift 0:20000", "steps 0:20000", "layer 0:20000 0:1",
        "man 40:150", "breath man", "rest 1:1000", "can men 1:9000 0:900", "can men 1:50000 0:20000",
        "fewest 1:9000 0:900", "fewest 1:50000 0:20000", "hoist men noRope 1:3000 0:900", "hoist men noRope 1:50000 0:20000",
        "rope 100:50000"};
    private static final String[] ROPES = {
        "rope 100:50000", "rope 100:3000", "wet rope is", "about rope 0:4", "pull rope 1:2000", "pull rope 1:50000",
        "load 1:50000", "load 1:2000", "load 1:900", "clear", "bears 100:50000", "bears 1500:4000", "bears 800:1800",
        "blamed 100:50000 k", "blamed 1000:4000 k", "blamed 800:1900 k", "load 400:900"};
    /** Loads that part the rope twice as told, but only a rope that is worn a little. */
    private static final String[] BLAMES = {
        "load 470:500", "load 470:500", "load 485:500", "load 1:500", "load 900:970", "bears 1000:1000", "blamed 1000:1000 k",
        "blamed 990:1010 k", "blamed 1000:1000 k", "clear"};
    private static final String[] WALL = {
        "stone 0:30 0:12 1:12 rests", "stone 5:20 0:6 1:5 fewRests", "arched stone stone", "centrings 0:5",
        "stand 0:30 0:12 0:16383", "stand 5:20 0:5 fewRests", "price stand stand 1:100", "price stand stand 1:4",
        "reach 1:30 1:12", "reach 5:15 3:8", "reaches stand stone", "may set stone", "orders", "plan", "act 0:20", "act 0:8"};
    private static final String[] DAYS = {
        "stone 0:30 0:12 1:12 rests", "stone 5:20 0:3 1:5 fewRests", "stand 5:20 0:5 fewRests", "light 0:79 0:79 0:16",
        "light 0:40 40:79 4:12", "light 0:10 70:79 5:12", "frost 0:79 is", "frost 0:20 is", "mortar 0:10", "mortar 0:3",
        "laid stone", "laid stone", "end", "worst 0:2 0:1 0:2", "worst 1:2 0:1 0:1", "arched stone stone", "price stand stand 1:9"};
    private static final String[] SHAPES = {
        "shape", "corner 0:1000 0:1000", "corner 0:6 0:6", "corner 0:1000 0:1000", "corner 0:6 0:6", "area", "middle 0:3",
        "tilt 0:1000 0:1000 0:1000 0:1000 0:1", "tilt 0:6 0:6 0:6 0:6 0:1", "steady 0:1000 0:1000 0:1000 0:1000",
        "steady 0:6 0:9 0:6 0:9", "holes", "holes"};
    private static final String[] ALWAYS = {"count 0:8", "digest"};

    private final Map<String, Method> faces = new HashMap<>();
    private final Map<String, Method> oracles = new HashMap<>();
    private long seed = 20261116;
    private int wrong;

    public static void main(String[] args) throws Exception {
        OracleTest test = new OracleTest();
        test.collect();
        test.runs(60, 300, join(WHEEL, ALWAYS), 8);
        test.runs(120, 300, join(ROPES, ALWAYS), 8);
        test.runs(60, 200, join(BLAMES, ALWAYS), 8);
        test.runs(150, 120, join(WALL, ALWAYS), 9);
        test.walls(250);
        test.runs(60, 120, join(DAYS, ALWAYS), 7);
        test.runs(120, 200, join(SHAPES, ALWAYS), 8);
        test.runs(30, MOST_CALLS, join(join(join(WHEEL, ROPES), join(WALL, DAYS)), join(SHAPES, ALWAYS)), 6);
        System.out.println(test.wrong == 0 ? "all answers are the oracle's" : test.wrong + " answers differ");
        System.exit(test.wrong == 0 ? 0 : 1);
    }

    private static String[] join(String[] one, String[] two) {
        String[] all = new String[one.length + two.length];
        System.arraycopy(one, 0, all, 0, one.length);
        System.arraycopy(two, 0, all, one.length, two.length);
        return all;
    }

    private void collect() {
        for (Method method : WheelCrane.class.getDeclaredMethods()) {
            if (java.lang.reflect.Modifier.isPublic(method.getModifiers())) faces.put(method.getName(), method);
        }
        for (Method method : Oracle.class.getDeclaredMethods()) {
            if (faces.containsKey(method.getName())) oracles.put(method.getName(), method);
        }
    }

    private void runs(int runs, int calls, String[] kinds, int mostStones) throws Exception {
        for (int run = 0; run < runs && wrong < 20; run++) {
            WheelCrane crane = new WheelCrane();
            Oracle oracle = new Oracle();
            StringBuilder told = new StringBuilder();
            for (int i = 0; i < calls; i++) {
                String[] kind = kinds[below(kinds.length)].split(" ");
                if (kind[0].equals("stone") && oracle.count(3) >= mostStones && mostStones < 14) continue;
                if (!alike(crane, oracle, kind, told)) {
                    System.out.println(told);
                    wrong++;
                    break;
                }
            }
        }
    }

    /** Walls too long for one stand, so that plans shift, and back, and by the way of a third stand. */
    private void walls(int walls) throws Exception {
        for (int wall = 0; wall < walls && wrong < 20; wall++) {
            WheelCrane crane = new WheelCrane();
            Oracle oracle = new Oracle();
            StringBuilder told = new StringBuilder();
            boolean same = true;
            for (String call : buildWall(wall % 8 == 0 ? 14 : 5 + below(6))) {
                same &= alike(crane, oracle, call.split(" "), told);
            }
            java.util.List<Integer> due = oracle.wholePlan();
            for (int i = 0; due != null && i <= due.size(); i++) {
                int act = i < due.size() ? due.get(i) : Oracle.NONE;
                if (crane.act(i) != act) {
                    told.append("act ").append(i).append(" is ").append(crane.act(i)).append(" of ").append(due);
                    same = false;
                }
            }
            if (!same) {
                System.out.println(told);
                wrong++;
            }
        }
    }

    private java.util.List<String> buildWall(int stones) {
        java.util.List<String> calls = new java.util.ArrayList<>();
        for (int i = 0; i < stones; i++) {
            int rests = below(1 << i) & below(1 << i) & (below(2) == 0 ? below(1 << i) : 0);
            calls.add("stone 0:24 0:" + (i < 6 ? 0 : 6) + " 1:8 " + rests + ":" + rests);
        }
        for (int i = below(5); i > 0; i--) calls.add("arched stone stone");
        int stands = 2 + below(4);
        for (int i = 0; i < stands; i++) {
            int needs = below(3) == 0 ? 1 << below(stones) : 0;
            calls.add("stand " + 6 * i + ":" + 6 * i + " 0:3 " + needs + ":" + needs);
        }
        for (int i = 0; i < 8; i++) calls.add("price stand stand 1:" + (below(2) == 0 ? 3 : 12));
        calls.add("centrings 1:4");
        calls.add("reach 4:11 2:8");
        calls.add("mortar 0:4");
        for (int i = 0; i < 3; i++) calls.add("frost 0:30 is");
        for (int i = 0; i < 3; i++) calls.add("light 0:30 30:79 0:12");
        for (String last : new String[] {"orders", "plan", "end", "laid stone", "worst 2:2 0:0 0:0", "worst 2:2 1:1 0:1",
            "worst 1:1 1:1 0:0"}) calls.add(last);
        return calls;
    }

    private boolean alike(WheelCrane crane, Oracle oracle, String[] kind, StringBuilder told) throws Exception {
        Object[] numbers = new Object[kind.length - 1];
        for (int i = 1; i < kind.length; i++) {
            numbers[i - 1] = kind[i].equals("is") ? (Object) (below(3) > 0) : (Object) number(kind[i], oracle);
        }
        long got = ((Number) faces.get(kind[0]).invoke(crane, numbers)).longValue();
        long due = ((Number) oracles.get(kind[0]).invoke(oracle, numbers)).longValue();
        told.append(kind[0]).append(java.util.Arrays.toString(numbers)).append(" = ").append(got).append("; ");
        if (got != due) told.append("due is ").append(due);
        boolean same = crane.digest() == oracle.digest();
        if (!same) told.append("the digests differ");
        return got == due && same;
    }

    private int number(String range, Oracle oracle) {
        int least = 0;
        int most;
        switch (range) {
            case "man": most = oracle.count(0) - 1; break;
            case "men": most = (1 << oracle.count(0)) - 1; break;
            case "noRope": least = -1; most = oracle.count(1) - 1; break;
            case "rope": most = oracle.count(1) - 1; break;
            case "k": most = oracle.count(2) - 1; break;
            case "stone": most = oracle.count(3) - 1; break;
            case "set": case "rests": case "fewRests": most = (1 << oracle.count(3)) - 1; break;
            case "stand": most = oracle.count(4) - 1; break;
            default:
                least = Integer.parseInt(range.split(":")[0]);
                most = Integer.parseInt(range.split(":")[1]);
        }
        int dice = below(60);
        if (dice == 0) return least - 1;
        if (dice == 1) return most + 1;
        if (dice < 5) return least;
        if (dice < 8) return most;
        if (dice == 8) return new int[] {Integer.MIN_VALUE, Integer.MAX_VALUE, -1, 0, 1 << 14}[below(5)];
        int v = least + below(Math.max(1, most - least + 1));
        return range.equals("fewRests") ? v & below(most + 1) & below(most + 1) : v;
    }

    private int below(int bound) {
        seed ^= seed << 13;
        seed ^= seed >>> 7;
        seed ^= seed << 17;
        return (int) Long.remainderUnsigned(seed, bound);
    }
}
