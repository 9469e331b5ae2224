/** The boundaries of part 1, the wheel and its men: promises 1 to 12. */
public final class WheelBoundaryTest extends Sentences {
    public static void main(String[] args) {
        newObject();
        girthOfTheWheel();
        stepsOfATurn();
        girthOfTheAxle();
        friction();
        wheelIsWholeOrRefused();
        thickness();
        turnsOfALayer();
        windsIsWholeOrRefused();
        girthsOfLayers();
        wholeTurns();
        whatIsLeft();
        stepsOfALift();
        heights();
        fewestSteps();
        stepsBeyondThoseOfLift();
        lastLayer();
        lastLayerOfNothing();
        layerNumbers();
        layerWhat();
        numbersOfMen();
        weights();
        eightMen();
        breathAtFirst();
        breathOfWhom();
        breathDownToNothing();
        minutesOfRest();
        mostBreath();
        restOfNobody();
        bitsOfMen();
        loadsOfMen();
        heightsOfMen();
        noLess();
        wholeNumbers();
        noWrapAround();
        layerOfTheLift();
        costOfAStep();
        spentMidway();
        tooLightAheadOfSpent();
        fewestNumbers();
        fewestByCount();
        fewestByWeight();
        fewestByNumber();
        fewestWithBreath();
        fewestNone();
        hoistNumbers();
        hoistRopes();
        hoistTakesBreath();
        hoistRefused();
        hoistOfNoHeight();
        hoistParts();
        hoistByParted();
        hoistHoldsAll();
        badAheadOfNo();
        finish();
    }

    private static void newObject() {
        sentence("1", "As told; no MEN, ROPES, STONES, STANDS, an empty SHAPE, an empty ROW");
        for (int what = 0; what <= 6; what++) due(0, x.count(what));
        due(1, x.count(7));
        due(2, x.count(8));
        long[] numbers = new long[17 + 80];
        long[] ahead = {0, 0, 0, 0, 0, 0, 0, 1, 2, 1000, 40, 60, 10, 2, 5, 8, 4};
        java.util.Arrays.fill(numbers, 8);
        System.arraycopy(ahead, 0, numbers, 0, ahead.length);
        due(digestOf(numbers), x.digest());
        due(0, x.clear());
        due(0, x.shape());
        // Two objects have nothing in common.
        WheelCrane other = new WheelCrane();
        x.man(70);
        due(0, other.count(0));
    }

    private static void girthOfTheWheel() {
        sentence("2", "GIRTH W (100 .. 2000; 1000 at first)");
        x.man(70);
        due(1, x.can(1, 1060, 60));
        due(0, x.can(1, 1061, 60));
        refused(BAD, () -> x.wheel(99, 40, 60, 10), () -> x.wheel(2001, 40, 60, 10), () -> x.wheel(0, 40, 60, 10),
                () -> x.wheel(-1000, 40, 60, 10), () -> x.wheel(LOW, 40, 60, 10), () -> x.wheel(HIGH, 40, 60, 10));
        due(1, x.wheel(100, 40, 60, 10));
        due(1, x.can(1, 106, 60));
        due(0, x.can(1, 107, 60));
        due(1, x.wheel(2000, 40, 60, 10));
        due(1, x.can(1, 2121, 60));
        due(0, x.can(1, 2122, 60));
    }

    private static void stepsOfATurn() {
        sentence("2", "STEPS a turn S (10 .. 60; 40)");
        due(58, x.lift(39));
        due(60, x.lift(40));
        due(61, x.lift(41));
        refused(BAD, () -> x.wheel(1000, 9, 60, 10), () -> x.wheel(1000, 61, 60, 10), () -> x.wheel(1000, 0, 60, 10),
                () -> x.wheel(1000, -40, 60, 10), () -> x.wheel(1000, LOW, 60, 10), () -> x.wheel(1000, HIGH, 60, 10));
        due(1, x.wheel(1000, 10, 60, 10));
        due(54, x.lift(9));
        due(60, x.lift(10));
        due(66, x.lift(11));
        due(1, x.wheel(1000, 60, 60, 10));
        due(59, x.lift(59));
        due(60, x.lift(60));
    }

    private static void girthOfTheAxle() {
        sentence("2", "the axle a girth A (10 .. 200; 60)");
        due(60, x.lift(40));
        refused(BAD, () -> x.wheel(1000, 40, 9, 10), () -> x.wheel(1000, 40, 201, 10), () -> x.wheel(1000, 40, 0, 10),
                () -> x.wheel(1000, 40, -60, 10), () -> x.wheel(1000, 40, LOW, 10), () -> x.wheel(1000, 40, HIGH, 10));
        due(1, x.wheel(1000, 40, 10, 10));
        due(10, x.lift(40));
        due(1, x.wheel(1000, 40, 200, 10));
        due(200, x.lift(40));
    }

    private static void friction() {
        sentence("2", "friction F (0 .. 100; 10)");
        x.man(70);
        due(1, x.can(1, 1060, 60));
        due(0, x.can(1, 1061, 60));
        refused(BAD, () -> x.wheel(1000, 40, 60, -1), () -> x.wheel(1000, 40, 60, 101),
                () -> x.wheel(1000, 40, 60, LOW), () -> x.wheel(1000, 40, 60, HIGH));
        due(1, x.wheel(1000, 40, 60, 0));
        due(1, x.can(1, 1166, 60));
        due(0, x.can(1, 1167, 60));
        due(1, x.wheel(1000, 40, 60, 100));
        due(1, x.can(1, 583, 60));
        due(0, x.can(1, 584, 60));
    }

    private static void wheelIsWholeOrRefused() {
        sentence("2", "W, S, A, F: 1. BAD. (Refused, changing nothing)");
        due(1, x.wheel(100, 10, 10, 0));
        due(1, x.wheel(2000, 60, 200, 100));
        refused(BAD, () -> x.wheel(100, 10, 10, 101), () -> x.wheel(99, 10, 10, 0), () -> x.wheel(100, 9, 10, 0),
                () -> x.wheel(100, 10, 9, 0), () -> x.wheel(LOW, LOW, LOW, LOW), () -> x.wheel(HIGH, HIGH, HIGH, HIGH));
        due(200, x.lift(60));
    }

    private static void thickness() {
        sentence("3", "Rope of thickness r (0 .. 10; 2)");
        due(72, x.layer(201, 1));
        refused(BAD, () -> x.winds(-1, 5), () -> x.winds(11, 5), () -> x.winds(LOW, 5), () -> x.winds(HIGH, 5));
        due(1, x.winds(0, 5));
        due(60, x.layer(201, 1));
        due(60, x.layer(20000, 1));
        due(1, x.winds(10, 5));
        due(120, x.layer(201, 1));
    }

    private static void turnsOfALayer() {
        sentence("3", "winds T turns a layer (1 .. 20; 5)");
        due(0, x.layer(200, 0));
        due(1, x.layer(201, 0));
        refused(BAD, () -> x.winds(2, 0), () -> x.winds(2, 21), () -> x.winds(2, -5), () -> x.winds(2, LOW),
                () -> x.winds(2, HIGH));
        due(1, x.winds(2, 1));
        due(0, x.layer(40, 0));
        due(1, x.layer(41, 0));
        due(1, x.layer(80, 0));
        due(2, x.layer(81, 0));
        due(1, x.winds(2, 20));
        due(0, x.layer(800, 0));
        due(1, x.layer(801, 0));
    }

    private static void windsIsWholeOrRefused() {
        sentence("3", "r, T: 1. BAD. (Refused, changing nothing)");
        refused(BAD, () -> x.winds(0, 0), () -> x.winds(0, 21), () -> x.winds(11, 1), () -> x.winds(-1, 1),
                () -> x.winds(LOW, LOW), () -> x.winds(HIGH, HIGH));
        due(72, x.layer(201, 1));
        due(1, x.winds(0, 1));
        due(1, x.winds(10, 20));
        due(120, x.layer(801, 1));
    }

    private static void girthsOfLayers() {
        sentence("3", "layer k (0 on) has girth A + 6 r k");
        due(60, x.layer(1, 1));
        due(60, x.layer(200, 1));
        due(72, x.layer(201, 1));
        due(72, x.layer(400, 1));
        due(84, x.layer(401, 1));
        x.wheel(1000, 10, 200, 0);
        x.winds(10, 1);
        due(200, x.layer(10, 1));
        due(260, x.layer(11, 1));
        due(200 + 60 * 1999, x.layer(20000, 1));
    }

    private static void wholeTurns() {
        sentence("4", "THE LIFT of q STEPS: whole turns each by their layer's girth");
        due(240, x.lift(160));
        due(298, x.lift(199));
        due(300, x.lift(200));
        due(372, x.lift(240));
        due(660, x.lift(400));
        due(744, x.lift(440));
        x.winds(2, 1);
        due(60, x.lift(40));
        due(132, x.lift(80));
        due(216, x.lift(120));
    }

    private static void whatIsLeft() {
        sentence("4", "what is left by that of the next turn: its STEPS times girth by S, cut");
        due(1, x.lift(1));
        due(3, x.lift(2));
        due(4, x.lift(3));
        due(58, x.lift(39));
        // The next turn behind five is the first of layer 1, of girth 72: 9 and 1.8 a step.
        due(301, x.lift(201));
        due(309, x.lift(205));
        due(370, x.lift(239));
        x.wheel(1000, 60, 10, 0);
        due(0, x.lift(5));
        due(1, x.lift(6));
        due(9, x.lift(59));
        due(10, x.lift(60));
        due(10, x.lift(65));
        due(11, x.lift(66));
    }

    private static void stepsOfALift() {
        sentence("4", "THE LIFT of q STEPS (0 .. 20000). BAD");
        due(0, x.lift(0));
        due(1, x.lift(1));
        due(326968, x.lift(19999));
        due(327000, x.lift(20000));
        refused(BAD, () -> x.lift(-1), () -> x.lift(20001), () -> x.lift(LOW), () -> x.lift(HIGH));
        x.wheel(1000, 10, 200, 0);
        x.winds(10, 1);
        due(2000 * 200 + 60 * 1999000, x.lift(20000));
        x.wheel(1000, 60, 10, 0);
        x.winds(0, 20);
        due(3333, x.lift(20000));
    }

    private static void heights() {
        sentence("5", "STEPS FOR a height h (0 .. 20000). BAD");
        due(0, x.steps(0));
        due(1, x.steps(1));
        due(4342, x.steps(20000));
        refused(BAD, () -> x.steps(-1), () -> x.steps(20001), () -> x.steps(LOW), () -> x.steps(HIGH));
    }

    private static void fewestSteps() {
        sentence("5", "the fewest with a LIFT of h or more");
        due(2, x.steps(2));
        due(2, x.steps(3));
        due(3, x.steps(4));
        due(39, x.steps(58));
        due(40, x.steps(59));
        due(40, x.steps(60));
        due(41, x.steps(61));
        due(200, x.steps(300));
        due(201, x.steps(301));
        due(202, x.steps(302));
        int[] highs = {299, 300, 301, 371, 372, 373, 659, 660, 661, 12345, 19999, 20000};
        for (int h : highs) {
            due(1, x.lift(x.steps(h)) >= h ? 1 : 0);
            due(1, x.lift(x.steps(h) - 1) < h ? 1 : 0);
        }
        x.wheel(1000, 10, 200, 0);
        x.winds(10, 1);
        for (int h : highs) {
            due(1, x.lift(x.steps(h)) >= h ? 1 : 0);
            due(1, x.lift(x.steps(h) - 1) < h ? 1 : 0);
        }
        due(1, x.steps(20));
        due(2, x.steps(21));
        due(10, x.steps(200));
        due(11, x.steps(201));
        // 58 of 59 STEPS LIFT 58.98, cut 58; 59 LIFT 60.
        x.wheel(1000, 59, 60, 0);
        due(58, x.steps(58));
        due(59, x.steps(59));
        due(59, x.steps(60));
        due(60, x.steps(61));
    }

    private static void stepsBeyondThoseOfLift() {
        sentence("5", "the fewest with a LIFT of h or more (more than the 20000 that lift() takes)");
        x.wheel(1000, 60, 10, 0);
        x.winds(0, 20);
        due(19998, x.steps(3333));
        due(20004, x.steps(3334));
        due(119994, x.steps(19999));
        due(120000, x.steps(20000));
        x.winds(0, 1);
        due(120000, x.steps(20000));
    }

    private static void lastLayer() {
        sentence("6", "THE LAST LAYER of q STEPS: that of the last one");
        due(0, x.layer(1, 0));
        due(0, x.layer(199, 0));
        due(0, x.layer(200, 0));
        due(1, x.layer(201, 0));
        due(1, x.layer(400, 0));
        due(2, x.layer(401, 0));
        due(99, x.layer(19801, 0));
        due(98, x.layer(19800, 0));
    }

    private static void lastLayerOfNothing() {
        sentence("6", "(q 0: 0)");
        due(0, x.layer(0, 0));
        due(60, x.layer(0, 1));
        x.wheel(1000, 10, 200, 0);
        x.winds(10, 1);
        due(0, x.layer(0, 0));
        due(200, x.layer(0, 1));
    }

    private static void layerNumbers() {
        sentence("6", "BAD: q as lift()");
        due(99, x.layer(20000, 0));
        due(60 + 12 * 99, x.layer(20000, 1));
        refused(BAD, () -> x.layer(-1, 0), () -> x.layer(20001, 0), () -> x.layer(-1, 1), () -> x.layer(20001, 1),
                () -> x.layer(LOW, 0), () -> x.layer(HIGH, 1));
    }

    private static void layerWhat() {
        sentence("6", "number (what = 0), girth (1). BAD");
        due(1, x.layer(300, 0));
        due(72, x.layer(300, 1));
        refused(BAD, () -> x.layer(300, -1), () -> x.layer(300, 2), () -> x.layer(300, LOW), () -> x.layer(300, HIGH));
    }

    private static void numbersOfMen() {
        sentence("7", "MEN 0 .. 7, as they come");
        for (int i = 0; i < 8; i++) {
            due(i, x.man(40 + i));
            due(i + 1, x.count(0));
        }
    }

    private static void weights() {
        sentence("7", "weigh 40 .. 150. BAD");
        refused(BAD, () -> x.man(39), () -> x.man(151), () -> x.man(0), () -> x.man(-70), () -> x.man(LOW), () -> x.man(HIGH));
        due(0, x.man(40));
        due(1, x.man(150));
        // 40 * 1000 * 100 by 6600, and 150 so.
        due(1, x.can(1, 606, 60));
        due(0, x.can(1, 607, 60));
        due(1, x.can(2, 2272, 60));
        due(0, x.can(2, 2273, 60));
    }

    private static void eightMen() {
        sentence("7", "FULL: 8");
        for (int i = 0; i < 7; i++) x.man(70);
        due(7, x.man(70));
        refused(FULL, () -> x.man(70), () -> x.man(40), () -> x.man(150));
        refused(BAD, () -> x.man(39), () -> x.man(151));
        due(8, x.count(0));
    }

    private static void breathAtFirst() {
        sentence("8", "BREATH (0 .. 5000; 1000 at first)");
        x.man(70);
        due(1000, x.breath(0));
        x.rest(500);
        due(2000, x.breath(0));
        x.man(70);
        due(1000, x.breath(1));
        due(2000, x.breath(0));
    }

    private static void breathOfWhom() {
        sentence("8", "BREATH. BAD");
        refused(BAD, () -> x.breath(0), () -> x.breath(-1));
        x.man(70);
        due(1000, x.breath(0));
        refused(BAD, () -> x.breath(1), () -> x.breath(-1));
        for (int i = 1; i < 8; i++) x.man(70);
        due(1000, x.breath(7));
        refused(BAD, () -> x.breath(8), () -> x.breath(-1), () -> x.breath(LOW), () -> x.breath(HIGH));
    }

    private static void breathDownToNothing() {
        sentence("8", "BREATH (0 .. 5000): none is left below 0");
        x.man(66);
        due(1000, x.hoist(1, NONE, 500, 2100));
        due(0, x.breath(0));
        due(2, x.can(1, 1, 1));
        refused(NO, () -> x.hoist(1, NONE, 1, 1));
        // What costs nothing needs no BREATH.
        due(1, x.can(1, 1, 0));
        due(0, x.hoist(1, NONE, 1, 0));
        due(0, x.breath(0));
    }

    private static void minutesOfRest() {
        sentence("9", "A REST of n minutes (1 .. 1000) brings all MEN 2 n. BAD");
        x.man(70);
        x.man(80);
        refused(BAD, () -> x.rest(0), () -> x.rest(1001), () -> x.rest(-1), () -> x.rest(LOW), () -> x.rest(HIGH));
        due(1, x.rest(1));
        due(1002, x.breath(0));
        due(1002, x.breath(1));
        due(1, x.rest(1000));
        due(3002, x.breath(0));
        due(3002, x.breath(1));
        for (int i = 2; i < 8; i++) x.man(70);
        due(1, x.rest(2));
        for (int i = 0; i < 8; i++) due(i < 2 ? 3006 : 1004, x.breath(i));
    }

    private static void mostBreath() {
        sentence("9", "(5000 at most)");
        x.man(70);
        x.man(70);
        due(41, x.hoist(1, NONE, 1, 61));
        x.rest(1000);
        x.rest(999);
        due(4957, x.breath(0));
        due(4998, x.breath(1));
        due(1, x.rest(1));
        due(4959, x.breath(0));
        due(5000, x.breath(1));
        due(1, x.rest(20));
        due(4999, x.breath(0));
        due(5000, x.breath(1));
        due(1, x.rest(1));
        due(5000, x.breath(0));
        due(1, x.rest(1000));
        due(5000, x.breath(0));
        due(5000, x.breath(1));
    }

    private static void restOfNobody() {
        sentence("9", "A REST: 1 (of no MEN, too)");
        due(1, x.rest(1));
        refused(BAD, () -> x.rest(0), () -> x.rest(1001));
        x.man(70);
        due(1000, x.breath(0));
    }

    private static void bitsOfMen() {
        sentence("10", "MEN (bits). BAD");
        due(0, x.can(0, 1, 0));
        refused(BAD, () -> x.can(1, 1, 0), () -> x.can(-1, 1, 0));
        x.man(150);
        due(1, x.can(1, 1, 0));
        refused(BAD, () -> x.can(2, 1, 0), () -> x.can(3, 1, 0));
        for (int i = 1; i < 8; i++) x.man(150);
        due(1, x.can(255, 1, 0));
        due(1, x.can(128, 1, 0));
        due(0, x.can(0, 1, 0));
        refused(BAD, () -> x.can(256, 1, 0), () -> x.can(257, 1, 0), () -> x.can(-1, 1, 0), () -> x.can(LOW, 1, 0),
                () -> x.can(HIGH, 1, 0));
    }

    private static void loadsOfMen() {
        sentence("10", "a load (1 .. 50000). BAD");
        for (int i = 0; i < 8; i++) x.man(150);
        x.wheel(2000, 10, 10, 0);
        due(1, x.can(255, 1, 10));
        due(1, x.can(255, 50000, 10));
        refused(BAD, () -> x.can(255, 0, 10), () -> x.can(255, 50001, 10), () -> x.can(255, -1, 10),
                () -> x.can(255, LOW, 10), () -> x.can(255, HIGH, 10));
    }

    private static void heightsOfMen() {
        sentence("10", "to h (0 .. 20000). BAD");
        x.man(70);
        due(1, x.can(1, 1, 0));
        due(2, x.can(1, 1, 20000));
        refused(BAD, () -> x.can(1, 1, -1), () -> x.can(1, 1, 20001), () -> x.can(1, 1, LOW), () -> x.can(1, 1, HIGH));
    }

    private static void noLess() {
        sentence("10", "if their weights together times W are no less than load times the girth ..");
        // 66 * 1000 * 100 is 1000 * 60 * 110.
        x.man(66);
        due(1, x.can(1, 999, 60));
        due(1, x.can(1, 1000, 60));
        due(0, x.can(1, 1001, 60));
        x.man(44);
        x.man(65);
        // 110 together lift 1666.7; 131 lift 1984.8.
        due(1, x.can(3, 1666, 60));
        due(0, x.can(3, 1667, 60));
        due(0, x.can(4, 1000, 60));
    }

    private static void wholeNumbers() {
        sentence("10", "times (100 and F) by 100: as whole numbers, both sides times 100");
        // 283 * 100 is below 467 * 60 * 1.01 by a fifth.
        x.wheel(100, 40, 60, 1);
        x.man(150);
        x.man(133);
        due(0, x.can(3, 467, 60));
        due(1, x.can(3, 466, 60));
    }

    private static void noWrapAround() {
        sentence("10", "as whole numbers, both sides times 100 (that no int holds)");
        for (int i = 0; i < 8; i++) x.man(150);
        x.wheel(2000, 60, 200, 100);
        x.winds(10, 1);
        for (int load = 50000; load > 0; load -= 1000) {
            // 1200 * 2000 * 100 by 200 times the girth of the last layer, of 20000: 23.
            int most = 240000000 / (200 * x.layer(x.steps(20000), 1));
            due(load <= most ? 2 : 0, x.can(255, load, 20000));
        }
        due(1, x.can(255, 6000, 200));
        due(0, x.can(255, 6001, 200));
    }

    private static void layerOfTheLift() {
        sentence("10", "the girth of THE LAST LAYER of STEPS FOR h");
        x.man(66);
        due(1, x.can(1, 1000, 300));
        due(0, x.can(1, 1000, 301));
        due(1, x.can(1, 833, 301));
        due(0, x.can(1, 834, 301));
        due(1, x.can(1, 1000, 0));
        due(0, x.can(1, 1001, 0));
    }

    private static void costOfAStep() {
        sentence("10", "Each STEP costs each of them 1 and load by 1000, cut");
        for (int i = 0; i < 8; i++) x.man(150);
        x.wheel(2000, 10, 10, 0);
        int[] loads = {1, 999, 1000, 1999, 2000, 49999, 50000};
        int[] costs = {1, 1, 2, 2, 3, 50, 51};
        for (int i = 0; i < loads.length; i++) {
            int before = x.breath(7);
            due(3, x.hoist(255, NONE, loads[i], 3));
            due(before - 3 * costs[i], x.breath(7));
            due(before - 3 * costs[i], x.breath(0));
        }
    }

    private static void spentMidway() {
        sentence("10", "2: they LIFT it, but one would be spent (less BREATH than all STEPS cost)");
        x.man(66);
        due(1, x.can(1, 500, 2100));
        due(2, x.can(1, 500, 2101));
        x.man(66);
        due(500, x.steps(870));
        due(1, x.can(3, 1000, 870));
        due(2, x.can(3, 1000, 871));
        due(41, x.hoist(2, NONE, 1, 61));
        // One of both would be spent; the other would not.
        due(2, x.can(3, 500, 2100));
        due(1, x.can(1, 500, 2100));
        due(2, x.can(2, 500, 2100));
        x.rest(20);
        due(2, x.can(2, 500, 2100));
        x.rest(1);
        due(1, x.can(2, 500, 2100));
    }

    private static void tooLightAheadOfSpent() {
        sentence("10", "1; 0: not; 2: they LIFT it, but one would be spent");
        x.man(66);
        due(0, x.can(1, 501, 2101));
        due(2, x.can(1, 500, 2101));
        due(0, x.can(0, 1, 0));
        due(0, x.can(0, 1, 20000));
    }

    private static void fewestNumbers() {
        sentence("11", "FEWEST MEN (load 1 .. 50000, h 0 .. 20000). BAD");
        for (int i = 0; i < 8; i++) x.man(150);
        x.wheel(2000, 10, 200, 0);
        due(1, x.fewest(1, 0));
        due(1, x.fewest(1, 20000));
        due(NONE, x.fewest(50000, 0));
        refused(BAD, () -> x.fewest(0, 0), () -> x.fewest(50001, 0), () -> x.fewest(1, -1), () -> x.fewest(1, 20001),
                () -> x.fewest(LOW, 0), () -> x.fewest(HIGH, 0), () -> x.fewest(1, LOW), () -> x.fewest(1, HIGH));
        x.wheel(2000, 10, 10, 0);
        // 50000 * 10 * 100 by 150 * 2000 * 100 are 1.67 men.
        due(3, x.fewest(50000, 0));
    }

    private static void fewestByCount() {
        sentence("11", "of all sets that LIFT it and have BREATH that with the fewest");
        x.man(40);
        x.man(40);
        x.man(150);
        due(4, x.fewest(1000, 60));
        due(1, x.fewest(606, 60));
        due(4, x.fewest(607, 60));
        due(5, x.fewest(2273, 60));
    }

    private static void fewestByWeight() {
        sentence("11", "of like ones the least sum of weights");
        x.man(90);
        x.man(80);
        x.man(70);
        due(4, x.fewest(1060, 60));
        due(2, x.fewest(1061, 60));
        due(2, x.fewest(1212, 60));
        due(1, x.fewest(1213, 60));
        due(6, x.fewest(2000, 60));
        due(5, x.fewest(2273, 60));
    }

    private static void fewestByNumber() {
        sentence("11", "then the least as a number");
        x.man(70);
        x.man(80);
        x.man(80);
        x.man(70);
        due(1, x.fewest(1000, 60));
        due(2, x.fewest(1100, 60));
        due(9, x.fewest(2100, 60));
        // 0 and 1, 0 and 2, 1 and 3, 2 and 3 weigh 150.
        due(3, x.fewest(2200, 60));
        due(6, x.fewest(2400, 60));
    }

    private static void fewestWithBreath() {
        sentence("11", "that LIFT it and have BREATH");
        x.man(66);
        x.man(67);
        due(1, x.hoist(1, NONE, 1, 1));
        due(2, x.fewest(500, 2100));
        due(1, x.fewest(500, 2097));
        due(2, x.fewest(500, 2098));
        due(1, x.hoist(2, NONE, 1, 1));
        due(NONE, x.fewest(500, 2100));
    }

    private static void fewestNone() {
        sentence("11", "NONE: none");
        due(NONE, x.fewest(1, 0));
        x.man(66);
        due(1, x.fewest(1000, 60));
        due(NONE, x.fewest(1001, 60));
        due(NONE, x.fewest(1, 20000));
    }

    private static void hoistNumbers() {
        sentence("12", "A HOIST by MEN with a ROPE. BAD (men, load, height)");
        x.man(66);
        x.rope(1000);
        refused(BAD, () -> x.hoist(2, 0, 100, 60), () -> x.hoist(-1, 0, 100, 60), () -> x.hoist(1, 0, 0, 60),
                () -> x.hoist(1, 0, 50001, 60), () -> x.hoist(1, 0, 100, -1), () -> x.hoist(1, 0, 100, 20001),
                () -> x.hoist(LOW, 0, 100, 60), () -> x.hoist(HIGH, 0, 100, 60), () -> x.hoist(1, 0, LOW, 60),
                () -> x.hoist(1, 0, HIGH, 60), () -> x.hoist(1, 0, 100, LOW), () -> x.hoist(1, 0, 100, HIGH));
        due(1, x.hoist(1, 0, 1, 1));
        due(0, x.hoist(1, 0, 1, 0));
        refused(NO, () -> x.hoist(0, 0, 1, 0), () -> x.hoist(1, 0, 1, 20000), () -> x.hoist(1, 0, 50000, 0));
    }

    private static void hoistRopes() {
        sentence("12", "with a ROPE (NONE: one that holds all). BAD (ropes)");
        x.man(66);
        refused(BAD, () -> x.hoist(1, 0, 1, 1), () -> x.hoist(1, -2, 1, 1));
        due(1, x.hoist(1, NONE, 1, 1));
        for (int i = 0; i < 6; i++) x.rope(100);
        due(1, x.hoist(1, 0, 1, 1));
        due(1, x.hoist(1, 5, 1, 1));
        due(1, x.hoist(1, -1, 1, 1));
        refused(BAD, () -> x.hoist(1, 6, 1, 1), () -> x.hoist(1, -2, 1, 1), () -> x.hoist(1, LOW, 1, 1),
                () -> x.hoist(1, HIGH, 1, 1));
        due(1, x.about(0, 1));
        due(0, x.about(4, 1));
        due(1, x.about(5, 1));
    }

    private static void hoistTakesBreath() {
        sentence("12", "how many STEPS; else they lose that");
        x.man(66);
        x.man(66);
        x.man(66);
        due(40, x.hoist(5, NONE, 999, 60));
        due(960, x.breath(0));
        due(1000, x.breath(1));
        due(960, x.breath(2));
        due(41, x.hoist(5, NONE, 1000, 61));
        due(878, x.breath(0));
        due(1000, x.breath(1));
    }

    private static void hoistRefused() {
        sentence("12", "refused if they do not LIFT it, or one has less BREATH than all STEPS cost. NO: can() is not 1");
        x.man(66);
        x.man(66);
        x.rope(2000);
        refused(NO, () -> x.hoist(1, 0, 1001, 60), () -> x.hoist(1, NONE, 1001, 60), () -> x.hoist(1, 0, 500, 2101),
                () -> x.hoist(0, 0, 1, 0), () -> x.hoist(0, NONE, 1, 0));
        due(40, x.hoist(1, 0, 1000, 60));
        due(920, x.breath(0));
        due(1000, x.hoist(2, 0, 500, 2100));
        due(0, x.breath(1));
        // One of both is spent: nobody may stop midway.
        refused(NO, () -> x.hoist(3, 0, 1, 1));
        due(1, x.hoist(1, 0, 1, 1));
    }

    private static void hoistOfNoHeight() {
        sentence("12", "how many STEPS (0 for height 0; the ROPE is PULLED)");
        x.man(66);
        x.rope(1000);
        due(0, x.hoist(1, 0, 1000, 0));
        due(1000, x.breath(0));
        due(11, x.about(0, 1));
        due(-10, x.hoist(1, 0, 990, 0));
        due(1, x.about(0, 3));
    }

    private static void hoistParts() {
        sentence("12", "-10: the ROPE PARTED (MEN lose nothing)");
        x.man(66);
        x.rope(500);
        due(40, x.hoist(1, 0, 500, 60));
        due(11, x.about(0, 1));
        due(494, x.about(0, 4));
        due(40, x.hoist(1, 0, 494, 60));
        due(21, x.about(0, 1));
        due(489, x.about(0, 4));
        due(920, x.breath(0));
        due(-10, x.hoist(1, 0, 490, 60));
        due(920, x.breath(0));
        due(21, x.about(0, 1));
        due(1, x.about(0, 3));
        x.rope(500);
        x.wet(1, true);
        due(40, x.hoist(1, 1, 375, 60));
        x.rope(500);
        x.wet(2, true);
        due(-10, x.hoist(1, 2, 376, 60));
        due(880, x.breath(0));
    }

    private static void hoistByParted() {
        sentence("12", "NO: can() is not 1, or the ROPE is PARTED already");
        x.man(66);
        x.rope(100);
        due(0, x.pull(0, 101));
        refused(NO, () -> x.hoist(1, 0, 1, 1), () -> x.hoist(1, 0, 1, 0), () -> x.hoist(1, 0, 1001, 60));
        due(1, x.hoist(1, NONE, 1, 1));
    }

    private static void hoistHoldsAll() {
        sentence("12", "(NONE: one that holds all)");
        for (int i = 0; i < 8; i++) x.man(150);
        x.wheel(2000, 10, 10, 0);
        x.rope(49999);
        due(1, x.hoist(255, NONE, 50000, 1));
        due(949, x.breath(3));
        due(-10, x.hoist(255, 0, 50000, 1));
        due(949, x.breath(3));
        x.rope(50000);
        due(1, x.hoist(255, 1, 50000, 1));
        due(898, x.breath(3));
    }

    private static void badAheadOfNo() {
        sentence("12", "Refused, the first of: BAD, NO");
        x.man(66);
        x.rope(100);
        x.pull(0, 101);
        refused(BAD, () -> x.hoist(1, 1, 1001, 60), () -> x.hoist(0, 1, 1, 0), () -> x.hoist(2, 0, 1, 1),
                () -> x.hoist(1, 0, 50001, 60), () -> x.hoist(1, 0, 1, 20001));
        refused(NO, () -> x.hoist(1, 0, 1001, 60));
    }
}
