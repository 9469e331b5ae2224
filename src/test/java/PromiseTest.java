/** Each promise of the document with answers worked out by hand: plain cases, edges, refusals. */
public final class PromiseTest {
    private static final int NONE = WheelCrane.NONE, BAD = WheelCrane.BAD, NO = WheelCrane.NO, FULL = WheelCrane.FULL;
    private static final int LOW = Integer.MIN_VALUE, HIGH = Integer.MAX_VALUE;
    private static final long LONG_BAD = -2000000000L, LONG_NO = -3000000000L;

    private static int promise;
    private static int asked;
    private static int wrong;
    private static WheelCrane x;
    private static long before;

    public static void main(String[] args) {
        newObject();
        wheelAndRope();
        liftStepsLayer();
        menAndBreath();
        canLift();
        fewestMen();
        hoisting();
        ropesAtHand();
        rowOfLoads();
        blaming();
        stones();
        arches();
        stands();
        mayAndOrders();
        plans();
        daysAndMortar();
        theEnd();
        worstWeather();
        shapes();
        hanging();
        counting();
        digesting();
        System.out.println(wrong == 0 ? asked + " answers are as promised" : wrong + " of " + asked + " answers are not as promised");
        System.exit(wrong == 0 ? 0 : 1);
    }

    private static void promise(int number) {
        promise = number;
    }

    private static void fresh(int number) {
        promise = number;
        x = new WheelCrane();
    }

    private static void due(long got, long want) {
        asked++;
        if (got != want) {
            wrong++;
            StackTraceElement at = new Throwable().getStackTrace()[1];
            int line = at.getMethodName().equals("refused") ? new Throwable().getStackTrace()[2].getLineNumber() : at.getLineNumber();
            System.out.println("promise " + promise + ", line " + line + ": answered " + got + ", due is " + want);
        }
    }

    /** Marks the state that refused calls must leave alone. */
    private static void mark() {
        before = x.digest();
    }

    private static void refused(long want, long... answers) {
        for (long got : answers) due(got, want);
        due(x.digest(), before);
    }

    private static void newObject() {
        fresh(1);
        for (int what = 0; what <= 6; what++) due(x.count(what), 0);
        due(x.count(7), 1);
        due(x.count(8), 2);
        due(x.digest(), -5279356049264101889L);
        due(x.orders(), 1);
        due(x.end(), NONE);
        due(WheelCrane.NONE, -1);
        due(WheelCrane.BAD, -2);
        due(WheelCrane.NO, -3);
        due(WheelCrane.FULL, -4);
    }

    private static void wheelAndRope() {
        fresh(2);
        x.man(70);
        due(x.can(1, 1060, 60), 1);
        due(x.can(1, 1061, 60), 0);
        due(x.wheel(1000, 40, 60, 0), 1);
        due(x.can(1, 1166, 60), 1);
        due(x.can(1, 1167, 60), 0);
        due(x.wheel(2000, 40, 60, 10), 1);
        due(x.can(1, 2121, 60), 1);
        due(x.can(1, 2122, 60), 0);
        x.man(60);
        due(x.wheel(1000, 40, 60, 0), 1);
        due(x.can(2, 1000, 60), 1);
        due(x.can(2, 1001, 60), 0);
        due(x.wheel(1000, 10, 100, 0), 1);
        due(x.lift(10), 100);
        due(x.lift(13), 130);
        due(x.wheel(100, 10, 10, 0), 1);
        due(x.wheel(2000, 60, 200, 100), 1);
        due(x.lift(60), 200);
        mark();
        refused(BAD, x.wheel(99, 40, 60, 10), x.wheel(2001, 40, 60, 10), x.wheel(1000, 9, 60, 10), x.wheel(1000, 61, 60, 10),
                x.wheel(1000, 40, 9, 10), x.wheel(1000, 40, 201, 10), x.wheel(1000, 40, 60, -1), x.wheel(1000, 40, 60, 101),
                x.wheel(LOW, LOW, LOW, LOW), x.wheel(HIGH, HIGH, HIGH, HIGH));
        fresh(3);
        due(x.winds(10, 1), 1);
        due(x.lift(40), 60);
        due(x.lift(80), 180);
        due(x.lift(81), 184);
        due(x.lift(120), 360);
        due(x.layer(81, 1), 180);
        due(x.winds(0, 20), 1);
        due(x.lift(20000), 30000);
        mark();
        refused(BAD, x.winds(-1, 5), x.winds(11, 5), x.winds(2, 0), x.winds(2, 21), x.winds(LOW, HIGH));
    }

    private static void liftStepsLayer() {
        fresh(4);
        due(x.lift(0), 0);
        due(x.lift(1), 1);
        due(x.lift(2), 3);
        due(x.lift(3), 4);
        due(x.lift(39), 58);
        due(x.lift(200), 300);
        due(x.lift(201), 301);
        due(x.lift(202), 303);
        due(x.lift(240), 372);
        due(x.lift(400), 660);
        due(x.lift(20000), 327000);
        refusedLift();
        promise(5);
        due(x.steps(0), 0);
        due(x.steps(1), 1);
        due(x.steps(2), 2);
        due(x.steps(3), 2);
        due(x.steps(4), 3);
        due(x.steps(300), 200);
        due(x.steps(301), 201);
        due(x.steps(302), 202);
        due(x.steps(660), 400);
        due(x.steps(20000), 4342);
        x.wheel(1000, 60, 10, 0);
        x.winds(0, 20);
        due(x.steps(20000), 120000);
        due(x.steps(10), 60);
        due(x.steps(11), 66);
        due(x.steps(9), 54);
        x.wheel(1000, 59, 60, 0);
        due(x.steps(59), 59);
        due(x.steps(60), 59);
        mark();
        refused(BAD, x.steps(-1), x.steps(20001), x.steps(LOW), x.steps(HIGH));
        fresh(6);
        due(x.layer(0, 0), 0);
        due(x.layer(0, 1), 60);
        due(x.layer(1, 0), 0);
        due(x.layer(200, 0), 0);
        due(x.layer(201, 0), 1);
        due(x.layer(400, 1), 72);
        due(x.layer(401, 0), 2);
        due(x.layer(401, 1), 84);
        due(x.layer(20000, 0), 99);
        mark();
        refused(BAD, x.layer(-1, 0), x.layer(20001, 0), x.layer(5, -1), x.layer(5, 2), x.layer(HIGH, LOW));
    }

    private static void refusedLift() {
        mark();
        refused(BAD, x.lift(-1), x.lift(20001), x.lift(LOW), x.lift(HIGH));
    }

    private static void menAndBreath() {
        fresh(7);
        mark();
        refused(BAD, x.man(39), x.man(151), x.man(LOW), x.man(HIGH));
        due(x.man(40), 0);
        due(x.man(150), 1);
        for (int i = 2; i < 8; i++) due(x.man(60 + i), i);
        mark();
        refused(FULL, x.man(40), x.man(150));
        refused(BAD, x.man(39), x.man(151));
        due(x.count(0), 8);
        promise(8);
        due(x.breath(0), 1000);
        due(x.breath(7), 1000);
        refused(BAD, x.breath(-1), x.breath(8), x.breath(LOW), x.breath(HIGH));
        promise(9);
        due(x.rest(1), 1);
        due(x.breath(3), 1002);
        due(x.rest(1000), 1);
        due(x.breath(0), 3002);
        due(x.breath(7), 3002);
        due(x.rest(999), 1);
        due(x.breath(5), 5000);
        due(x.rest(1), 1);
        due(x.breath(5), 5000);
        mark();
        refused(BAD, x.rest(0), x.rest(1001), x.rest(-1), x.rest(HIGH));
        fresh(8);
        due(x.breath(0), BAD);
    }

    private static void canLift() {
        fresh(10);
        due(x.can(0, 1, 0), 0);
        due(x.can(1, 1, 0), BAD);
        x.man(150);
        x.man(40);
        due(x.can(1, 1000, 870), 1);
        due(x.can(1, 1000, 871), 2);
        due(x.can(1, 999, 871), 1);
        due(x.can(0, 1, 0), 0);
        due(x.can(2, 606, 0), 1);
        due(x.can(2, 607, 0), 0);
        due(x.can(3, 2878, 60), 1);
        due(x.can(3, 2879, 60), 0);
        due(x.can(3, 2878, 301), 0);
        due(x.can(1, 50000, 20000), 0);
        mark();
        refused(BAD, x.can(-1, 100, 60), x.can(4, 100, 60), x.can(3, 0, 60), x.can(3, 50001, 60), x.can(3, 100, -1),
                x.can(3, 100, 20001), x.can(LOW, LOW, LOW), x.can(HIGH, HIGH, HIGH));
        x.hoist(1, NONE, 1000, 600);
        due(x.can(3, 1000, 600), 2);
        due(x.can(2, 100, 600), 1);
    }

    private static void fewestMen() {
        fresh(11);
        due(x.fewest(1, 0), NONE);
        x.man(70);
        x.man(80);
        x.man(60);
        x.man(60);
        due(x.fewest(1500, 60), 12);
        due(x.fewest(900, 60), 4);
        due(x.fewest(1000, 60), 1);
        due(x.fewest(1061, 60), 2);
        due(x.fewest(1960, 60), 5);
        due(x.fewest(1970, 60), 6);
        due(x.fewest(4090, 60), 15);
        due(x.fewest(4091, 60), NONE);
        due(x.hoist(4, NONE, 500, 960), 543);
        due(x.fewest(500, 900), 8);
        due(x.fewest(500, 60), 4);
        due(x.fewest(1, 20000), NONE);
        mark();
        refused(BAD, x.fewest(0, 60), x.fewest(50001, 60), x.fewest(100, -1), x.fewest(100, 20001), x.fewest(LOW, HIGH));
        fresh(11);
        x.man(50);
        x.man(50);
        x.man(120);
        due(x.fewest(1500, 60), 4);
        due(x.fewest(700, 60), 1);
    }

    private static void hoisting() {
        fresh(12);
        x.man(70);
        x.man(80);
        x.man(60);
        x.rope(1500);
        due(x.hoist(3, 0, 1200, 120), 80);
        due(x.breath(0), 840);
        due(x.breath(1), 840);
        due(x.breath(2), 1000);
        due(x.about(0, 1), 7);
        due(x.hoist(4, NONE, 500, 61), 41);
        due(x.breath(2), 959);
        due(x.about(0, 1), 7);
        due(x.hoist(1, 0, 15, 0), 0);
        due(x.breath(0), 840);
        due(x.about(0, 1), 8);
        mark();
        refused(NO, x.hoist(0, NONE, 1, 0), x.hoist(1, 0, 1061, 60), x.hoist(3, 0, 1000, 900));
        refused(BAD, x.hoist(-1, 0, 100, 60), x.hoist(8, 0, 100, 60), x.hoist(3, -2, 100, 60), x.hoist(3, 1, 100, 60),
                x.hoist(3, 0, 0, 60), x.hoist(3, 0, 50001, 60), x.hoist(3, 0, 100, -1), x.hoist(3, 0, 100, 20001),
                x.hoist(1, 9, 50000, 60), x.hoist(LOW, LOW, LOW, LOW), x.hoist(HIGH, HIGH, HIGH, HIGH));
        x.wet(0, true);
        due(x.about(0, 4), 1116);
        due(x.hoist(7, 0, 1117, 60), -10);
        due(x.breath(0), 840);
        due(x.breath(1), 840);
        due(x.breath(2), 959);
        due(x.about(0, 3), 1);
        due(x.about(0, 1), 8);
        mark();
        refused(NO, x.hoist(7, 0, 10, 60));
        due(x.hoist(7, NONE, 10, 60), 40);
    }

    private static void ropesAtHand() {
        fresh(13);
        mark();
        refused(BAD, x.rope(99), x.rope(50001), x.rope(LOW), x.rope(HIGH));
        due(x.rope(1000), 0);
        due(x.rope(103), 1);
        due(x.rope(100), 2);
        due(x.rope(50000), 3);
        due(x.rope(1000), 4);
        due(x.rope(1000), 5);
        mark();
        refused(FULL, x.rope(1000));
        refused(BAD, x.rope(99));
        promise(15);
        due(x.about(0, 0), 1000);
        due(x.about(0, 1), 0);
        due(x.about(0, 2), 0);
        due(x.about(0, 3), 0);
        due(x.about(0, 4), 1000);
        due(x.about(3, 4), 50000);
        refused(BAD, x.about(-1, 0), x.about(6, 0), x.about(0, -1), x.about(0, 5), x.about(HIGH, LOW));
        promise(16);
        due(x.pull(0, 1000), 1);
        due(x.about(0, 1), 11);
        due(x.about(0, 4), 989);
        due(x.pull(0, 989), 1);
        due(x.about(0, 1), 21);
        due(x.pull(0, 319), 1);
        due(x.about(0, 1), 22);
        due(x.pull(0, 320), 1);
        due(x.about(0, 1), 24);
        due(x.about(0, 4), 976);
        mark();
        refused(BAD, x.pull(0, 0), x.pull(0, 50001), x.pull(-1, 5), x.pull(6, 5), x.pull(LOW, HIGH));
        due(x.pull(0, 977), 0);
        due(x.about(0, 0), 1000);
        due(x.about(0, 1), 24);
        due(x.about(0, 3), 1);
        due(x.about(0, 4), 0);
        mark();
        refused(NO, x.pull(0, 1));
        refused(BAD, x.pull(0, 0));
        promise(14);
        refused(NO, x.wet(1, false));
        due(x.wet(1, true), 1);
        mark();
        refused(NO, x.wet(1, true));
        refused(BAD, x.wet(-1, true), x.wet(6, false), x.wet(HIGH, true));
        due(x.about(1, 2), 1);
        due(x.about(1, 4), 77);
        due(x.wet(1, false), 1);
        due(x.pull(1, 103), 1);
        due(x.about(1, 4), 101);
        due(x.wet(1, true), 1);
        due(x.about(1, 4), 75);
        due(x.pull(1, 76), 0);
        due(x.wet(1, false), 1);
        due(x.about(1, 4), 0);
        due(x.pull(3, 50000), 1);
    }

    private static void rowOfLoads() {
        fresh(17);
        mark();
        refused(BAD, x.load(0), x.load(50001), x.load(LOW), x.load(HIGH));
        due(x.load(1), 1);
        due(x.load(50000), 2);
        promise(19);
        due(x.bears(50000), 1);
        due(x.bears(49999), 1);
        due(x.bears(100), 1);
        promise(18);
        due(x.clear(), 2);
        due(x.clear(), 0);
        promise(17);
        for (int i = 1; i <= 12; i++) due(x.load(500), i);
        mark();
        refused(FULL, x.load(500));
        refused(BAD, x.load(0));
        promise(18);
        due(x.clear(), 12);
        due(x.count(2), 0);
        promise(19);
        due(x.bears(500), NONE);
        x.load(500);
        x.load(490);
        x.load(495);
        due(x.bears(1000), NONE);
        due(x.bears(499), 0);
        due(x.bears(500), 2);
        mark();
        refused(BAD, x.bears(99), x.bears(50001), x.bears(LOW), x.bears(HIGH));
    }

    private static void blaming() {
        fresh(20);
        due(x.blamed(1000, 0), BAD);
        x.load(500);
        x.load(490);
        x.load(495);
        due(x.blamed(1000, 0), NONE);
        due(x.blamed(999, 0), 1);
        due(x.blamed(1000, 1), NONE);
        due(x.blamed(1000, 2), 5);
        due(x.blamed(500, 1), 2);
        due(x.blamed(500, 0), 1);
        due(x.blamed(50000, 2), NONE);
        mark();
        refused(NO, x.blamed(500, 2), x.blamed(499, 0), x.blamed(499, 2));
        refused(BAD, x.blamed(1000, -1), x.blamed(1000, 3), x.blamed(99, 0), x.blamed(50001, 0), x.blamed(99, 2),
                x.blamed(LOW, HIGH), x.blamed(1000, HIGH));
        x.clear();
        // The last load parts as told, if one ahead was heavier and wore the rope.
        x.load(500);
        x.load(400);
        x.load(990);
        due(x.bears(1000), NONE);
        due(x.blamed(1000, 2), 1);
        x.clear();
        // The last one parts, if two ahead wore 6 more: by 1, 3, 3 and 5 these are 1 and 2 (or 0 and 3).
        for (int load : new int[] {200, 350, 350, 400, 494}) x.load(load);
        due(x.blamed(1000, 4), 22);
    }

    private static void stones() {
        fresh(21);
        mark();
        refused(BAD, x.stone(-1, 0, 1, 0), x.stone(31, 0, 1, 0), x.stone(0, -1, 1, 0), x.stone(0, 13, 1, 0),
                x.stone(0, 0, 0, 0), x.stone(0, 0, 13, 0), x.stone(0, 0, 1, -1), x.stone(0, 0, 1, 1),
                x.stone(LOW, LOW, LOW, LOW), x.stone(HIGH, HIGH, HIGH, HIGH));
        due(x.stone(0, 0, 1, 0), 0);
        due(x.stone(30, 12, 12, 1), 1);
        due(x.stone(3, 1, 1, 4), BAD);
        due(x.stone(3, 1, 1, 3), 2);
        for (int i = 3; i < 14; i++) due(x.stone(i, 0, 2, (1 << i) - 1), i);
        mark();
        refused(FULL, x.stone(0, 0, 1, 0), x.stone(0, 0, 1, 16383));
        refused(BAD, x.stone(0, 0, 1, 16384), x.stone(0, 0, 13, 0));
        due(x.count(3), 14);
    }

    private static void arches() {
        fresh(22);
        due(x.arched(0, 1), BAD);
        x.stone(0, 0, 1, 0);
        x.stone(2, 0, 1, 0);
        x.stone(1, 1, 1, 3);
        mark();
        refused(BAD, x.arched(0, 0), x.arched(0, 3), x.arched(3, 0), x.arched(-1, 0), x.arched(0, -1), x.arched(HIGH, LOW));
        due(x.arched(0, 2), 1);
        mark();
        refused(NO, x.arched(0, 2), x.arched(0, 1));
        refused(BAD, x.arched(0, 0));
        due(x.arched(2, 1), 1);
        promise(23);
        mark();
        refused(BAD, x.centrings(-1), x.centrings(6), x.centrings(LOW), x.centrings(HIGH));
        due(x.centrings(0), 1);
        due(x.centrings(5), 0);
        due(x.centrings(5), 5);
        due(x.count(7), 5);
    }

    private static void stands() {
        fresh(24);
        mark();
        refused(BAD, x.stand(-1, 0, 0), x.stand(31, 0, 0), x.stand(0, -1, 0), x.stand(0, 13, 0), x.stand(0, 0, -1),
                x.stand(0, 0, 16384), x.stand(LOW, HIGH, LOW));
        due(x.stand(10, 2, 0), 0);
        due(x.stand(30, 12, 16383), 1);
        promise(25);
        due(x.price(0, 1, 7), 1);
        due(x.price(1, 0, 100), 7);
        due(x.price(0, 1, 1), 100);
        mark();
        refused(BAD, x.price(0, 0, 5), x.price(0, 2, 5), x.price(2, 0, 5), x.price(-1, 0, 5), x.price(0, -1, 5),
                x.price(0, 1, 0), x.price(0, 1, 101), x.price(HIGH, LOW, HIGH));
        promise(24);
        for (int i = 2; i < 5; i++) due(x.stand(i, 0, 1 << i), i);
        mark();
        refused(FULL, x.stand(0, 0, 0));
        refused(BAD, x.stand(0, 0, 16384));
        promise(25);
        due(x.price(4, 2, 9), 1);
        due(x.price(2, 4, 9), 9);
        promise(27);
        due(x.reaches(0, 0), BAD);
        int[] places = {18, 6, 19, 6, 2, 0, 1, 0, 10, 7};
        for (int i = 0; i < 5; i++) x.stone(places[2 * i], places[2 * i + 1], 1, 0);
        due(x.reaches(0, 0), 1);
        due(x.reaches(0, 1), 0);
        due(x.reaches(0, 2), 1);
        due(x.reaches(0, 3), 0);
        due(x.reaches(0, 4), 0);
        due(x.reaches(1, 0), 0);
        mark();
        refused(BAD, x.reaches(-1, 0), x.reaches(5, 0), x.reaches(0, -1), x.reaches(0, 5), x.reaches(LOW, HIGH));
        promise(26);
        due(x.reach(9, 5), 1);
        due(x.reaches(0, 1), 1);
        due(x.reaches(0, 3), 1);
        due(x.reaches(0, 4), 1);
        due(x.reach(1, 1), 1);
        due(x.reaches(0, 0), 0);
        due(x.reach(30, 12), 1);
        mark();
        refused(BAD, x.reach(0, 4), x.reach(31, 4), x.reach(8, 0), x.reach(8, 13), x.reach(LOW, HIGH));
    }

    private static void mayAndOrders() {
        fresh(28);
        due(x.may(0, 0), BAD);
        x.stone(0, 0, 1, 0);
        x.stone(2, 0, 1, 0);
        x.stone(4, 0, 1, 0);
        x.stone(6, 0, 1, 0);
        due(x.may(0, 0), 1);
        due(x.may(1, 0), 0);
        promise(29);
        due(x.orders(), 24);
        x.arched(0, 2);
        x.arched(1, 3);
        due(x.orders(), 20);
        promise(28);
        due(x.may(1, 1), 0);
        due(x.may(5, 1), 1);
        due(x.may(3, 2), 1);
        due(x.may(3, 3), 1);
        due(x.may(8, 0), 1);
        mark();
        refused(BAD, x.may(-1, 0), x.may(16, 0), x.may(0, -1), x.may(0, 4), x.may(LOW, HIGH), x.may(HIGH, 0));
        x.centrings(2);
        due(x.may(1, 1), 1);
        promise(29);
        due(x.orders(), 24);
        x.centrings(0);
        due(x.orders(), 6);
        promise(28);
        due(x.may(3, 2), 0);
        due(x.may(7, 3), 1);
        x.stone(5, 1, 1, 12);
        due(x.may(4, 4), 0);
        due(x.may(12, 4), 1);
        fresh(28);
        x.stone(0, 0, 1, 0);
        promise(29);
        due(x.orders(), 1);
        promise(28);
        x.stone(1, 0, 1, 0);
        x.centrings(0);
        x.arched(1, 0);
        due(x.may(0, 1), 0);
        due(x.may(1, 1), 1);
        promise(29);
        due(x.orders(), 1);
        fresh(29);
        for (int i = 0; i < 14; i++) x.stone(i, 0, 1, 0);
        due(x.orders(), 87178291200L);
        fresh(29);
        for (int i = 0; i < 14; i++) x.stone(i, 0, 1, (1 << i) - 1);
        due(x.orders(), 1);
        fresh(29);
        x.stone(0, 0, 1, 0);
        x.stone(0, 1, 1, 1);
        x.stone(20, 0, 1, 0);
        x.stand(0, 0, 0);
        due(x.orders(), 3);
    }

    private static void plans() {
        fresh(30);
        due(x.plan(), NO);
        promise(31);
        due(x.act(0), NO);
        due(x.act(-1), BAD);
        due(x.act(LOW), BAD);
        x.stand(0, 0, 16383);
        promise(30);
        due(x.plan(), 0);
        promise(31);
        due(x.act(0), NONE);
        x.stone(20, 0, 5, 0);
        x.stone(5, 0, 5, 0);
        promise(30);
        due(x.plan(), NONE);
        promise(31);
        due(x.act(0), NONE);
        x.stand(15, 0, 2);
        acts(1, 1, 101, 0);
        x.stand(0, 0, 0);
        x.stand(14, 0, 0);
        x.price(0, 1, 100);
        x.price(0, 3, 50);
        acts(2, 1, 102, 101, 0);
        x.price(0, 1, 2);
        acts(2, 1, 101, 0);
        x.price(2, 1, 9);
        x.price(2, 3, 9);
        x.price(0, 1, 7);
        x.price(0, 3, 7);
        // Laying goes ahead of shifting, and of like prices the lesser stand is taken.
        acts(7, 1, 101, 0);
        x.stone(20, 9, 1, 0);
        promise(30);
        due(x.plan(), NONE);
        x.reach(8, 9);
        acts(7, 1, 101, 0, 2);
        x.centrings(0);
        x.arched(0, 2);
        acts(7, 1, 101, 2, 0);
        mark();
        refused(NONE, x.act(4), x.act(HIGH));
        refused(BAD, x.act(-1));
        needsOfStands();
        waysOfPlans();
        longPlan();
    }

    private static void longPlan() {
        fresh(30);
        for (int i = 0; i < 14; i++) x.stone(i % 2 == 0 ? 28 : 0, 0, 1, i == 0 ? 0 : 1 << i - 1);
        for (int j = 0; j < 5; j++) x.stand(7 * j, 0, 0);
        x.reach(6, 1);
        for (int a = 0; a < 5; a++) {
            for (int b = a + 2; b < 5; b++) x.price(a, b, 100);
        }
        due(x.plan(), 56);
        promise(31);
        for (int i = 0; i < 70; i++) {
            int lap = i / 5, at = i % 5;
            due(x.act(i), at == 4 ? lap : lap % 2 == 0 ? 101 + at : 103 - at);
        }
        due(x.act(70), NONE);
    }

    private static void waysOfPlans() {
        fresh(30);
        x.stone(20, 0, 1, 0);
        x.stand(20, 0, 0);
        acts(0, 0);
        fresh(30);
        x.stone(20, 0, 1, 0);
        x.stand(0, 0, 0);
        x.stand(20, 0, 1 << 13);
        x.stand(20, 0, 0);
        // A stand that needs what never comes is no way, though it is the lesser one.
        acts(1, 102, 0);
        fresh(30);
        x.stone(20, 0, 1, 0);
        x.stand(0, 0, 0);
        x.stand(1, 0, 0);
        x.stand(20, 0, 0);
        x.price(0, 2, 9);
        acts(2, 101, 102, 0);
        x.stand(2, 0, 0);
        x.price(1, 2, 9);
        x.price(0, 3, 9);
        acts(3, 101, 103, 102, 0);
        fresh(30);
        // Stone 0, laid first, would keep the one centring till the crane has shifted.
        x.stone(0, 0, 1, 0);
        x.stone(20, 0, 1, 0);
        x.stone(1, 0, 1, 0);
        x.stone(1, 1, 1, 4);
        x.arched(0, 1);
        x.arched(2, 3);
        x.stand(0, 0, 0);
        x.stand(20, 0, 0);
        acts(1, 2, 3, 0, 101, 1);
        x.centrings(0);
        due(x.plan(), NONE);
        x.centrings(2);
        acts(1, 0, 2, 3, 101, 1);
    }

    private static void needsOfStands() {
        fresh(30);
        x.stone(5, 0, 1, 0);
        x.stone(20, 0, 1, 1);
        x.stone(5, 1, 1, 2);
        x.stand(5, 0, 8);
        x.stand(20, 0, 1);
        due(x.plan(), NONE);
        x.stand(6, 0, 3);
        x.price(1, 2, 4);
        acts(5, 0, 101, 1, 102, 2);
        x.stone(5, 0, 1, 0);
        acts(2, 0, 3, 101, 1, 100, 2);
        x.price(0, 1, 3);
        acts(6, 0, 3, 101, 1, 100, 2);
    }

    private static void acts(int price, int... due) {
        promise(30);
        due(x.plan(), price);
        promise(31);
        for (int i = 0; i < due.length; i++) due(x.act(i), due[i]);
        due(x.act(due.length), NONE);
    }

    private static void daysAndMortar() {
        fresh(32);
        x.stone(0, 0, 5, 0);
        x.stone(1, 0, 4, 0);
        due(x.laid(1), 1);
        due(x.light(0, 0, 9), 1);
        due(x.laid(1), 0);
        due(x.light(0, 0, 4), 1);
        due(x.laid(0), 1);
        due(x.laid(1), 2);
        due(x.light(0, 79, 0), 1);
        due(x.laid(0), NONE);
        due(x.light(79, 79, 16), 1);
        due(x.laid(1), 79);
        mark();
        refused(BAD, x.light(-1, 5, 8), x.light(5, 80, 8), x.light(5, 4, 8), x.light(0, 5, -1), x.light(0, 5, 17),
                x.light(80, 80, 8), x.light(LOW, HIGH, 8), x.light(HIGH, LOW, 8));
        fresh(33);
        x.stone(0, 0, 8, 0);
        x.stone(0, 0, 8, 0);
        x.stone(0, 1, 1, 1);
        due(x.laid(1), 1);
        due(x.laid(2), 3);
        due(x.frost(1, true), 1);
        due(x.laid(1), 2);
        due(x.laid(2), 4);
        mark();
        refused(NO, x.frost(1, true), x.frost(2, false));
        refused(BAD, x.frost(-1, true), x.frost(80, false), x.frost(LOW, true), x.frost(HIGH, false));
        due(x.frost(4, true), 1);
        due(x.laid(2), 5);
        due(x.frost(1, false), 1);
        due(x.frost(4, false), 1);
        due(x.laid(2), 3);
        due(x.frost(79, true), 1);
        due(x.frost(0, true), 1);
        due(x.count(6), 2);
        fresh(34);
        mark();
        refused(BAD, x.mortar(-1), x.mortar(11), x.mortar(LOW), x.mortar(HIGH));
        due(x.mortar(0), 2);
        x.stone(0, 0, 4, 0);
        x.stone(0, 1, 4, 1);
        x.stone(0, 2, 1, 3);
        due(x.laid(1), 0);
        due(x.laid(2), 1);
        due(x.mortar(1), 0);
        due(x.laid(1), 2);
        due(x.laid(2), 4);
        due(x.mortar(10), 1);
        due(x.laid(2), 22);
        due(x.mortar(10), 10);
    }

    private static void theEnd() {
        fresh(35);
        due(x.laid(0), BAD);
        promise(36);
        due(x.end(), NONE);
        x.stone(0, 0, 8, 0);
        x.stone(0, 1, 1, 1);
        x.stone(9, 0, 1, 0);
        due(x.end(), 3);
        promise(35);
        due(x.laid(2), 3);
        mark();
        refused(BAD, x.laid(-1), x.laid(3), x.laid(LOW), x.laid(HIGH));
        fresh(36);
        x.mortar(10);
        for (int i = 0; i < 8; i++) x.stone(0, i, 1, i == 0 ? 0 : 1 << i - 1);
        due(x.end(), 77);
        x.stone(0, 8, 1, 1 << 7);
        x.stone(0, 0, 1, 0);
        due(x.end(), NONE);
        promise(35);
        due(x.laid(7), 77);
        due(x.laid(8), NONE);
        due(x.laid(9), NONE);
        fresh(35);
        // The plan lays stone 1 ahead of stone 0; without a plan it goes by numbers.
        x.stone(20, 0, 5, 0);
        x.stone(5, 0, 5, 0);
        due(x.laid(0), 0);
        due(x.laid(1), 1);
        x.stand(5, 0, 0);
        due(x.laid(0), 0);
        x.stand(15, 0, 2);
        due(x.laid(0), 1);
        due(x.laid(1), 0);
        promise(36);
        due(x.end(), 1);
        promise(35);
        x.reach(1, 1);
        due(x.laid(0), 0);
        due(x.laid(1), 1);
        fresh(35);
        x.stone(0, 0, 5, 0);
        x.stone(0, 0, 5, 0);
        x.arched(0, 1);
        x.centrings(0);
        due(x.laid(0), 0);
        x.stand(0, 0, 0);
        due(x.laid(0), 1);
    }

    private static void worstWeather() {
        fresh(37);
        due(x.worst(0, 0, 0), NONE);
        due(x.worst(1, 1, 0), NONE);
        due(x.worst(1, 1, -1), BAD);
        x.stone(0, 0, 8, 0);
        due(x.worst(0, 0, 0), 0);
        due(x.worst(0, 1, 0), NONE);
        due(x.worst(1, 0, -7), 1);
        due(x.worst(1, 1, 0), 0);
        due(x.worst(1, 1, 1), NONE);
        worst(2, 2, 0, 1);
        mark();
        refused(NONE, x.worst(2, 1, 2), x.worst(2, 1, HIGH));
        refused(BAD, x.worst(-1, 0, 0), x.worst(3, 0, 0), x.worst(1, -1, 0), x.worst(1, 2, 0), x.worst(1, 1, -1),
                x.worst(LOW, 0, 0), x.worst(HIGH, HIGH, HIGH));
        x.light(0, 69, 0);
        worst(1, 70, 0);
        worst(2, 70, 0, 1);
        x.frost(0, true);
        worst(2, 70, 1, 2);
        x.light(0, 79, 0);
        x.light(10, 10, 8);
        worst(0, 10);
        worst(1, 80, 10);
        worst(2, 80, 1, 10);
        x.light(20, 20, 8);
        worst(1, 20, 10);
        worst(2, 80, 10, 20);
        x.light(0, 79, 8);
        for (int day = 1; day < 60; day++) if (day != 5) x.frost(day, true);
        worst(1, 60, 5);
        due(x.worst(2, 0, 0), NONE);
        due(x.worst(2, 1, 0), NONE);
        x.frost(5, true);
        due(x.worst(1, 0, 0), NONE);
        due(x.worst(1, 1, 0), NONE);
        due(x.worst(0, 0, 0), 60);
        x.frost(59, false);
        worst(1, 60, 59);
        fresh(37);
        // Mortar that does not dry is as bad as a day without work, and days between count alike.
        x.stone(0, 0, 8, 0);
        x.stone(0, 1, 8, 1);
        worst(1, 4, 0);
        worst(2, 5, 0, 1);
        x.light(0, 0, 16);
        x.light(1, 79, 8);
        x.mortar(0);
        worst(1, 2, 0);
        worst(2, 3, 0, 1);
    }

    private static void worst(int f, int end, int... days) {
        due(x.worst(f, 0, 0), end);
        for (int i = 0; i < days.length; i++) due(x.worst(f, 1, i), days[i]);
        due(x.worst(f, 1, days.length), NONE);
    }

    private static void corners(int... places) {
        for (int i = 0; i < places.length; i += 2) due(x.corner(places[i], places[i + 1]), i / 2 + 1);
    }

    private static void shapes() {
        fresh(39);
        mark();
        refused(BAD, x.corner(-1, 0), x.corner(0, -1), x.corner(1001, 0), x.corner(0, 1001), x.corner(LOW, HIGH));
        promise(38);
        due(x.shape(), 0);
        promise(40);
        due(x.area(), NO);
        corners(0, 0, 6, 0);
        due(x.area(), NO);
        promise(41);
        due(x.middle(0), LONG_NO);
        due(x.middle(4), LONG_BAD);
        promise(39);
        due(x.corner(0, 3), 3);
        promise(40);
        due(x.area(), 18);
        promise(41);
        middle(2, 1, 1, 1);
        mark();
        refused(LONG_BAD, x.middle(-1), x.middle(4), x.middle(LOW), x.middle(HIGH));
        promise(38);
        due(x.shape(), 3);
        due(x.count(5), 0);
        promise(41);
        corners(0, 1, 1, 0, 0, 0);
        due(x.area(), 1);
        middle(1, 3, 1, 3);
        x.shape();
        corners(0, 0, 1, 0, 0, 6);
        middle(1, 3, 2, 1);
        x.shape();
        corners(0, 0, 5, 5, 10, 10);
        promise(40);
        due(x.area(), 0);
        promise(41);
        due(x.middle(0), LONG_NO);
        due(x.middle(9), LONG_BAD);
        x.shape();
        corners(0, 0, 1000, 0, 1000, 1000, 0, 1000);
        promise(40);
        due(x.area(), 2000000);
        promise(41);
        middle(500, 1, 500, 1);
        promise(39);
        for (int i = 5; i <= 8; i++) due(x.corner(0, 0), i);
        mark();
        refused(FULL, x.corner(0, 0), x.corner(1000, 1000));
        refused(BAD, x.corner(0, 1001));
        promise(38);
        due(x.shape(), 8);
        promise(41);
        // An L of a 4 by 1 and a 1 by 3 piece: (2 * 4 + 0.5 * 3) by 7, (0.5 * 4 + 2.5 * 3) by 7.
        corners(0, 0, 4, 0, 4, 1, 1, 1, 1, 4, 0, 4);
        due(x.area(), 14);
        middle(19, 14, 19, 14);
        x.shape();
        // Corners that cross one another give a middle outside of them all, even below 0.
        corners(0, 1, 4, 0, 0, 0, 3, 1);
        due(x.area(), 1);
        middle(7, 3, -2, 3);
    }

    private static void middle(long... due) {
        for (int what = 0; what < 4; what++) due(x.middle(what), due[what]);
    }

    private static void hanging() {
        fresh(42);
        due(x.tilt(0, 0, 1, 0, 0), LONG_NO);
        due(x.tilt(0, 0, 1, 0, 2), LONG_BAD);
        due(x.steady(0, 0, 1, 0), NO);
        due(x.holes(), NO);
        corners(0, 0, 1, 0, 0, 1);
        due(x.tilt(0, 5, 1, 9, 0), -1);
        due(x.tilt(0, 5, 1, 9, 1), 6);
        due(x.tilt(0, 5, 0, 9, 0), 1);
        due(x.tilt(0, 5, 0, 9, 1), 3);
        due(x.tilt(1000, 0, 1000, 1000, 0), -2999);
        mark();
        refused(LONG_BAD, x.tilt(-1, 0, 0, 0, 0), x.tilt(1001, 0, 0, 0, 0), x.tilt(0, -1, 0, 0, 0), x.tilt(0, 1001, 0, 0, 0),
                x.tilt(0, 0, -1, 0, 0), x.tilt(0, 0, 1001, 0, 0), x.tilt(0, 0, 0, -1, 0), x.tilt(0, 0, 0, 1001, 0),
                x.tilt(0, 0, 0, 0, -1), x.tilt(0, 0, 0, 0, 2), x.tilt(LOW, HIGH, LOW, HIGH, LOW));
        x.shape();
        corners(0, 10, 10, 10, 10, 0, 0, 0);
        due(x.tilt(2, 9, 8, 9, 0), 0);
        due(x.tilt(2, 9, 8, 9, 1), 1);
        promise(43);
        due(x.steady(0, 10, 10, 10), 1);
        due(x.steady(10, 10, 0, 10), 1);
        due(x.steady(5, 6, 10, 6), 1);
        due(x.steady(0, 6, 5, 6), 1);
        due(x.steady(5, 6, 5, 6), 1);
        due(x.steady(6, 6, 10, 6), 0);
        due(x.steady(0, 6, 4, 6), 0);
        due(x.steady(0, 5, 10, 10), 0);
        due(x.steady(0, 10, 10, 5), 0);
        mark();
        refused(BAD, x.steady(-1, 0, 0, 0), x.steady(1001, 0, 0, 0), x.steady(0, -1, 0, 0), x.steady(0, 1001, 0, 0),
                x.steady(0, 0, -1, 0), x.steady(0, 0, 1001, 0), x.steady(0, 0, 0, -1), x.steady(0, 0, 0, 1001),
                x.steady(HIGH, LOW, HIGH, LOW));
        promise(44);
        due(x.holes(), 1);
        x.shape();
        due(x.holes(), NO);
        corners(0, 0, 10, 0, 5, 10);
        due(x.holes(), NONE);
        x.shape();
        corners(0, 0, 0, 10, 1, 10, 10, 10, 10, 0);
        due(x.holes(), 13);
        due(x.steady(1, 10, 10, 10), 1);
        x.shape();
        corners(0, 0, 10, 0, 10, 10, 8, 10, 2, 10, 0, 10);
        due(x.holes(), 25);
        x.shape();
        corners(0, 0, 5, 5, 10, 10);
        due(x.holes(), NO);
        promise(43);
        due(x.steady(0, 10, 10, 10), NO);
        due(x.steady(0, 10, 10, 1001), BAD);
        promise(42);
        due(x.tilt(0, 10, 10, 10, 0), LONG_NO);
    }

    private static void counting() {
        fresh(45);
        fillAll();
        int[] due = {2, 1, 3, 2, 3, 4, 2, 3, 5};
        for (int what = 0; what < 9; what++) due(x.count(what), due[what]);
        mark();
        refused(BAD, x.count(-1), x.count(9), x.count(LOW), x.count(HIGH));
    }

    private static void fillAll() {
        x.wheel(900, 30, 50, 7);
        x.winds(3, 4);
        x.reach(9, 5);
        x.man(71);
        x.man(82);
        x.rest(3);
        x.rope(2000);
        x.pull(0, 1000);
        x.wet(0, true);
        x.load(11);
        x.load(12);
        x.load(13);
        x.stone(1, 2, 3, 0);
        x.stone(4, 5, 6, 1);
        x.arched(0, 1);
        x.stand(7, 8, 9);
        x.stand(10, 11, 12);
        x.stand(13, 12, 16383);
        x.price(0, 1, 21);
        x.price(2, 0, 22);
        x.price(1, 2, 23);
        x.corner(31, 32);
        x.corner(33, 34);
        x.corner(35, 36);
        x.corner(37, 38);
        x.frost(7, true);
        x.frost(8, true);
        x.light(8, 9, 15);
        x.centrings(3);
        x.mortar(5);
    }

    private static void digesting() {
        fresh(46);
        fillAll();
        int[] ahead = {2, 1, 3, 2, 3, 4, 2, 3, 5, 900, 30, 50, 7, 3, 4, 9, 5, 71, 1006, 82, 1006, 2000, 3, 1, 0, 1495, 11, 12, 13,
            1, 2, 3, 0, 1, 4, 5, 6, 1, NONE, 7, 8, 9, 10, 11, 12, 13, 12, 16383, 21, 22, 23};
        int[] behind = {31, 32, 33, 34, 35, 36, 37, 38};
        long h = 271;
        for (int v : ahead) h = 31 * h + v;
        for (int day = 0; day < 80; day++) h = 31 * h + (day == 8 || day == 9 ? 15 : 8);
        for (int v : behind) h = 31 * h + v;
        due(x.digest(), h);
        due(x.digest(), h);
        x.pull(0, 50000);
        ahead[24] = 1;
        ahead[25] = 0;
        h = 271;
        for (int v : ahead) h = 31 * h + v;
        for (int day = 0; day < 80; day++) h = 31 * h + (day == 8 || day == 9 ? 15 : 8);
        for (int v : behind) h = 31 * h + v;
        due(x.digest(), h);
    }
}
