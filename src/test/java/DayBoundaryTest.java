/** The boundaries of part 4, days, mortar and the worst weather: promises 32 to 37. */
public final class DayBoundaryTest extends Sentences {
    public static void main(String[] args) {
        daysOfLight();
        daysInOrder();
        hoursOfLight();
        lightAtFirst();
        lightUnderFrost();
        daysOfFrost();
        frostAsItIs();
        frostStopsWork();
        mortarNumbers();
        mortarAtFirst();
        laidOfWhich();
        laidOnNone();
        laidByNumbers();
        laidByThePlan();
        laidFoundAnew();
        worstFoundAnew();
        hoursLeft();
        fromTheStoneAhead();
        whollyInOneDay();
        neitherOfBothDays();
        mortarOfNothing();
        mortarOfTen();
        frostDriesNothing();
        eachOnWhichItRests();
        restsOnNothing();
        endOfNothing();
        endOfTheLast();
        beyondTheDays();
        behindOneOnNone();
        worstNumbers();
        worstWhat();
        worstIndex();
        worstIndexNotLookedAt();
        worstOfNothing();
        worstOfNoDay();
        worstOfOneDay();
        worstOfTwoDays();
        worstDays();
        worstWithoutFrost();
        worstOfNoSuchSet();
        worstBeyond();
        worstBeyondFirst();
        worstTies();
        worstChangesNothing();
        badAheadOfNo();
        finish();
    }

    private static void worst(int f, int end, int... days) {
        due(end, x.worst(f, 0, 0));
        for (int i = 0; i < days.length; i++) due(days[i], x.worst(f, 1, i));
        due(NONE, x.worst(f, 1, days.length));
    }

    private static void lightOnlyOn(int... days) {
        x.light(0, 79, 0);
        for (int day : days) x.light(day, day, 8);
    }

    private static void daysOfLight() {
        sentence("32", "DAYS 0 .. 79; LIGHT of DAYS from .. to: 1. BAD");
        x.stone(0, 0, 8, 0);
        refused(BAD, () -> x.light(-1, 5, 0), () -> x.light(0, 80, 0), () -> x.light(-1, 80, 0), () -> x.light(80, 80, 0),
                () -> x.light(-1, -1, 0), () -> x.light(LOW, 5, 0), () -> x.light(5, HIGH, 0), () -> x.light(LOW, HIGH, 0));
        due(0, x.laid(0));
        due(1, x.light(0, 78, 0));
        due(79, x.laid(0));
        due(1, x.light(79, 79, 0));
        due(NONE, x.laid(0));
        due(1, x.light(0, 0, 8));
        due(0, x.laid(0));
        due(1, x.light(0, 79, 0));
        due(NONE, x.laid(0));
        due(1, x.light(1, 78, 8));
        due(1, x.laid(0));
        due(1, x.light(1, 77, 0));
        due(78, x.laid(0));
    }

    private static void daysInOrder() {
        sentence("32", "from .. to. BAD (to ahead of from)");
        refused(BAD, () -> x.light(1, 0, 8), () -> x.light(79, 0, 8), () -> x.light(6, 5, 3), () -> x.light(HIGH, LOW, 8));
        due(1, x.light(5, 5, 3));
        due(1, x.light(5, 6, 3));
        x.stone(0, 0, 4, 0);
        x.stone(0, 0, 4, 0);
        x.stone(0, 0, 8, 0);
        x.stone(0, 0, 8, 0);
        x.stone(0, 0, 8, 0);
        x.stone(0, 0, 8, 0);
        x.stone(0, 0, 3, 0);
        x.stone(0, 0, 3, 0);
        x.stone(0, 0, 8, 0);
        due(4, x.laid(5));
        due(5, x.laid(6));
        due(6, x.laid(7));
        due(7, x.laid(8));
    }

    private static void hoursOfLight() {
        sentence("32", "LIGHT (0 .. 16 hours). BAD");
        refused(BAD, () -> x.light(0, 79, -1), () -> x.light(0, 79, 17), () -> x.light(0, 79, LOW), () -> x.light(0, 79, HIGH));
        x.stone(0, 0, 12, 0);
        x.stone(0, 0, 4, 0);
        due(1, x.light(0, 79, 16));
        due(0, x.laid(1));
        due(1, x.light(0, 0, 15));
        due(1, x.laid(1));
        due(1, x.light(0, 79, 0));
        due(NONE, x.laid(0));
    }

    private static void lightAtFirst() {
        sentence("32", "LIGHT (0 .. 16 hours; 8 at first)");
        x.stone(0, 0, 8, 0);
        due(0, x.laid(0));
        x.stone(0, 0, 1, 0);
        due(1, x.laid(1));
        x.light(0, 78, 7);
        due(79, x.laid(0));
        again();
        x.stone(0, 0, 9, 0);
        due(NONE, x.laid(0));
    }

    private static void lightUnderFrost() {
        sentence("32", "DAYS have LIGHT, or FROST (LIGHT comes back with the day)");
        x.stone(0, 0, 8, 0);
        x.light(0, 79, 0);
        x.frost(5, true);
        due(1, x.light(5, 5, 8));
        due(NONE, x.laid(0));
        due(1, x.frost(5, false));
        due(5, x.laid(0));
    }

    private static void daysOfFrost() {
        sentence("33", "FROST on a DAY (0 .. 79), or none: 1. BAD");
        refused(BAD, () -> x.frost(-1, true), () -> x.frost(80, true), () -> x.frost(-1, false), () -> x.frost(80, false),
                () -> x.frost(LOW, true), () -> x.frost(HIGH, true));
        due(1, x.frost(0, true));
        due(1, x.frost(79, true));
        due(2, x.count(6));
        x.stone(0, 0, 8, 0);
        due(1, x.laid(0));
        lightOnlyOn(79);
        due(NONE, x.laid(0));
        due(1, x.frost(79, false));
        due(79, x.laid(0));
        due(1, x.count(6));
        due(1, x.frost(0, false));
        due(0, x.count(6));
    }

    private static void frostAsItIs() {
        sentence("33", "NO: it is so");
        refused(NO, () -> x.frost(0, false), () -> x.frost(79, false));
        due(1, x.frost(0, true));
        refused(NO, () -> x.frost(0, true));
        due(1, x.count(6));
        due(1, x.frost(0, false));
        refused(NO, () -> x.frost(0, false));
        x.stone(0, 0, 8, 0);
        due(0, x.laid(0));
        for (int day = 0; day < 80; day++) due(1, x.frost(day, true));
        due(80, x.count(6));
        due(NONE, x.laid(0));
    }

    private static void frostStopsWork() {
        sentence("33", "FROST (no work)");
        x.stone(0, 0, 1, 0);
        x.light(0, 79, 16);
        due(0, x.laid(0));
        x.frost(0, true);
        due(1, x.laid(0));
        for (int day = 1; day < 79; day++) x.frost(day, true);
        due(79, x.laid(0));
        x.frost(79, true);
        due(NONE, x.laid(0));
    }

    private static void mortarNumbers() {
        sentence("34", "M (0 .. 10): what it was. BAD");
        refused(BAD, () -> x.mortar(-1), () -> x.mortar(11), () -> x.mortar(LOW), () -> x.mortar(HIGH));
        due(2, x.mortar(0));
        due(0, x.count(8));
        due(0, x.mortar(10));
        due(10, x.count(8));
        refused(BAD, () -> x.mortar(-1), () -> x.mortar(11));
        due(10, x.mortar(10));
        due(10, x.mortar(1));
    }

    private static void mortarAtFirst() {
        sentence("34", "M (0 .. 10; 2)");
        due(2, x.count(8));
        x.stone(0, 0, 1, 0);
        x.stone(0, 1, 1, 1);
        due(3, x.laid(1));
        due(2, x.mortar(2));
        due(3, x.laid(1));
    }

    private static void laidOfWhich() {
        sentence("35", "On which DAY a STONE is laid. BAD");
        refused(BAD, () -> x.laid(0), () -> x.laid(-1));
        x.stone(0, 0, 1, 0);
        due(0, x.laid(0));
        refused(BAD, () -> x.laid(1), () -> x.laid(-1));
        for (int i = 1; i < 14; i++) x.stone(0, 0, 8, 0);
        due(13, x.laid(13));
        refused(BAD, () -> x.laid(14), () -> x.laid(-1), () -> x.laid(LOW), () -> x.laid(HIGH));
    }

    private static void laidOnNone() {
        sentence("35", "NONE: on none");
        x.stone(0, 0, 8, 0);
        lightOnlyOn(79);
        due(79, x.laid(0));
        x.light(79, 79, 7);
        due(NONE, x.laid(0));
    }

    private static void laidByNumbers() {
        sentence("35", "in the order of THE PLAN, or, if there is none, by numbers");
        x.stone(20, 0, 8, 0);
        x.stone(0, 0, 8, 0);
        due(0, x.laid(0));
        due(1, x.laid(1));
        // A STAND from which not all can be laid gives no PLAN.
        x.stand(0, 0, 0);
        due(0, x.laid(0));
        due(1, x.laid(1));
        x.centrings(0);
        x.arched(0, 1);
        due(0, x.laid(0));
        // There was a PLAN, and then there is none.
        again();
        x.stone(20, 0, 8, 0);
        x.stone(0, 0, 8, 0);
        x.stand(0, 0, 0);
        x.stand(20, 0, 0);
        due(1, x.laid(0));
        due(0, x.laid(1));
        x.stone(0, 12, 8, 0);
        due(0, x.laid(0));
        due(1, x.laid(1));
        due(2, x.laid(2));
    }

    private static void laidByThePlan() {
        sentence("35", "STONES are laid in the order of THE PLAN (SHIFTS take no time)");
        x.stone(20, 0, 4, 0);
        x.stone(0, 0, 4, 0);
        x.stone(0, 0, 8, 0);
        x.stand(0, 0, 0);
        x.stand(20, 0, 0);
        // 1, 2, the SHIFT, 0.
        due(0, x.laid(1));
        due(1, x.laid(2));
        due(2, x.laid(0));
        due(2, x.end());
        x.light(1, 1, 12);
        due(1, x.laid(0));
        x.reach(20, 1);
        due(0, x.laid(0));
        due(0, x.laid(1));
        due(1, x.laid(2));
        // 0, 101, 1, 100, 2.
        again();
        x.mortar(0);
        x.stone(0, 0, 8, 0);
        x.stone(20, 0, 8, 1);
        x.stone(0, 1, 8, 2);
        x.stand(0, 0, 0);
        x.stand(20, 0, 0);
        due(2, x.plan());
        for (int i = 0; i < 3; i++) due(i, x.laid(i));
        due(2, x.end());
        // From one STAND, too, THE PLAN tells the order: the KEY comes first.
        again();
        x.stone(0, 0, 8, 0);
        x.stone(0, 0, 8, 0);
        x.arched(0, 1);
        x.centrings(0);
        due(0, x.laid(0));
        x.stand(0, 0, 0);
        due(1, x.laid(0));
        due(0, x.laid(1));
    }

    private static void laidFoundAnew() {
        sentence("36", "THE END (behind each call that changes it)");
        x.stone(20, 0, 4, 0);
        x.stone(0, 0, 8, 0);
        x.stone(0, 0, 4, 0);
        due(2, x.end());
        x.stand(0, 0, 0);
        due(2, x.end());
        x.stand(20, 0, 0);
        // 1, 2, 0.
        due(1, x.end());
        x.reach(20, 1);
        due(2, x.end());
        x.centrings(0);
        x.arched(0, 2);
        // 1, 2, 0 again: the KEY is ahead of its own.
        due(1, x.end());
        x.centrings(1);
        due(2, x.end());
        x.light(1, 1, 16);
        due(1, x.end());
        x.frost(1, true);
        due(3, x.end());
        x.stone(0, 1, 1, 2);
        // STONE 1 is on day 2, STONE 2 on day 3, the new one on day 5.
        due(5, x.end());
        x.mortar(0);
        due(3, x.end());
    }

    private static void worstFoundAnew() {
        sentence("37", "WORST (behind each call that changes it)");
        x.stone(20, 0, 4, 0);
        x.stone(0, 0, 8, 0);
        x.stone(0, 0, 4, 0);
        worst(1, 3, 0);
        x.stand(0, 0, 0);
        x.stand(20, 0, 0);
        worst(1, 2, 0);
        x.reach(20, 1);
        worst(1, 3, 0);
        x.centrings(0);
        worst(1, 3, 0);
        x.arched(0, 2);
        worst(1, 2, 0);
        x.centrings(1);
        worst(1, 3, 0);
        x.light(1, 2, 16);
        // FROST on 0 leaves all for day 1; FROST on 1 leaves two of them for day 2.
        worst(1, 2, 1);
        x.frost(0, true);
        worst(1, 2, 1);
        x.stone(0, 1, 1, 2);
        worst(1, 5, 1);
        x.mortar(0);
        worst(1, 3, 1);
        // The way by STAND 1 or 2 tells whether STONE 0 or STONE 1 is laid first.
        again();
        x.stone(20, 0, 4, 0);
        x.stone(10, 0, 5, 0);
        x.stone(30, 0, 4, 0);
        x.stand(0, 0, 0);
        x.stand(20, 0, 0);
        x.stand(10, 0, 0);
        x.stand(30, 0, 0);
        x.reach(1, 1);
        due(0, x.laid(0));
        worst(1, 3, 0);
        x.price(0, 1, 100);
        x.price(1, 2, 100);
        // 102, 1, 103, 2, 101, 0: by 5, 4 and 4 hours.
        due(0, x.laid(1));
        worst(1, 2, 0);
    }

    private static void hoursLeft() {
        sentence("35", "that has HOURS of LIGHT left");
        x.stone(0, 0, 4, 0);
        x.stone(0, 0, 4, 0);
        due(0, x.laid(1));
        x.stone(0, 0, 4, 0);
        due(1, x.laid(2));
        x.stone(0, 0, 5, 0);
        due(2, x.laid(3));
        x.stone(0, 0, 3, 0);
        due(2, x.laid(4));
        x.stone(0, 0, 1, 0);
        due(3, x.laid(5));
    }

    private static void fromTheStoneAhead() {
        sentence("35", "on the first one, from that of the STONE ahead on");
        x.stone(0, 0, 5, 0);
        x.stone(0, 0, 5, 0);
        x.stone(0, 0, 3, 0);
        // Day 0 has 3 hours left, but the STONE ahead is on day 1.
        due(1, x.laid(1));
        due(1, x.laid(2));
        x.stone(0, 1, 1, 1);
        // Ahead of that the mortar of STONE 0 would be dry on day 3.
        due(3, x.laid(3));
        x.stone(0, 0, 1, 0);
        due(3, x.laid(4));
    }

    private static void whollyInOneDay() {
        sentence("35", "each wholly in one day");
        x.stone(0, 0, 12, 0);
        x.light(0, 79, 11);
        due(NONE, x.laid(0));
        x.light(40, 40, 12);
        due(40, x.laid(0));
        x.frost(40, true);
        due(NONE, x.laid(0));
    }

    private static void neitherOfBothDays() {
        sentence("35", "between it and the day .. there are M DAYS without FROST or more (neither of both days counts)");
        x.stone(0, 0, 1, 0);
        x.stone(0, 1, 1, 1);
        for (int m = 1; m <= 10; m++) {
            x.mortar(m);
            due(m + 1, x.laid(1));
        }
        // More than M do no harm.
        x.mortar(1);
        x.light(1, 9, 0);
        due(10, x.laid(1));
    }

    private static void mortarOfNothing() {
        sentence("35", "M 0: it may be the same");
        x.stone(0, 0, 4, 0);
        x.stone(0, 1, 4, 1);
        x.mortar(0);
        due(0, x.laid(1));
        x.mortar(1);
        due(2, x.laid(1));
        x.mortar(0);
        x.light(0, 0, 7);
        due(1, x.laid(1));
    }

    private static void mortarOfTen() {
        sentence("35", "M (0 .. 10): ten DAYS between");
        for (int i = 0; i < 8; i++) x.stone(0, i, 1, i == 0 ? 0 : 1 << i - 1);
        x.mortar(10);
        due(77, x.laid(7));
        due(77, x.end());
        x.frost(0, true);
        x.frost(12, true);
        // The first one is on day 1; day 12 would have been that of the second.
        due(13, x.laid(1));
        due(79, x.laid(7));
        x.frost(78, true);
        due(NONE, x.laid(7));
        due(68, x.laid(6));
    }

    private static void frostDriesNothing() {
        sentence("35", "FROST (mortar does not dry)");
        x.stone(0, 0, 1, 0);
        x.stone(0, 1, 1, 1);
        due(3, x.laid(1));
        x.frost(1, true);
        due(4, x.laid(1));
        x.frost(2, true);
        due(5, x.laid(1));
        x.frost(5, true);
        due(6, x.laid(1));
        // A day without LIGHT dries all the same.
        again();
        x.stone(0, 0, 1, 0);
        x.stone(0, 1, 1, 1);
        x.light(1, 2, 0);
        due(3, x.laid(1));
    }

    private static void eachOnWhichItRests() {
        sentence("35", "the day of each STONE on which it RESTS");
        x.stone(0, 0, 8, 0);
        x.stone(0, 0, 8, 0);
        x.stone(0, 0, 8, 0);
        x.stone(0, 1, 1, 3);
        due(4, x.laid(3));
        again();
        for (int i = 0; i < 13; i++) x.stone(0, 0, 8, 0);
        x.stone(0, 1, 1, 4096);
        due(15, x.laid(13));
        again();
        for (int i = 0; i < 13; i++) x.stone(0, 0, 8, 0);
        x.stone(0, 1, 1, 2048);
        due(14, x.laid(13));
        again();
        for (int i = 0; i < 13; i++) x.stone(0, 0, 8, 0);
        x.stone(0, 1, 1, 1);
        due(13, x.laid(13));
    }

    private static void restsOnNothing() {
        sentence("35", "each STONE on which it RESTS (of none there is no mortar)");
        x.mortar(10);
        x.stone(0, 0, 1, 0);
        x.stone(0, 0, 1, 0);
        due(0, x.laid(0));
        due(0, x.laid(1));
    }

    private static void endOfNothing() {
        sentence("36", "THE END. NONE: .. no STONES");
        due(NONE, x.end());
        x.stand(0, 0, 0);
        due(NONE, x.end());
        x.stone(0, 0, 1, 0);
        due(0, x.end());
    }

    private static void endOfTheLast() {
        sentence("36", "THE END: the day of the last one");
        x.stone(0, 0, 8, 0);
        due(0, x.end());
        x.stone(0, 0, 8, 0);
        due(1, x.end());
        // The last one of THE PLAN, not that of the highest number.
        x.stone(20, 0, 8, 0);
        x.stone(0, 0, 8, 0);
        x.stand(0, 0, 0);
        x.stand(20, 0, 0);
        due(3, x.laid(2));
        due(3, x.end());
    }

    private static void beyondTheDays() {
        sentence("36", "none, if that were beyond 79");
        x.stone(0, 0, 8, 0);
        x.stone(0, 1, 8, 1);
        x.light(0, 75, 0);
        due(76, x.laid(0));
        due(79, x.laid(1));
        due(79, x.end());
        x.light(76, 76, 0);
        due(77, x.laid(0));
        due(NONE, x.laid(1));
        due(NONE, x.end());
        x.mortar(1);
        due(79, x.end());
        x.frost(79, true);
        due(NONE, x.end());
    }

    private static void behindOneOnNone() {
        sentence("36", "(STONES behind one that is laid on none are on none)");
        x.stone(0, 0, 4, 0);
        x.stone(0, 0, 9, 0);
        x.stone(0, 0, 1, 0);
        due(0, x.laid(0));
        due(NONE, x.laid(1));
        due(NONE, x.laid(2));
        due(NONE, x.end());
        x.light(50, 50, 9);
        due(0, x.laid(0));
        due(50, x.laid(1));
        due(51, x.laid(2));
        due(51, x.end());
    }

    private static void worstNumbers() {
        sentence("37", "WORST for f (0 .. 2). BAD");
        x.stone(0, 0, 1, 0);
        due(0, x.worst(0, 0, 0));
        due(1, x.worst(1, 0, 0));
        due(2, x.worst(2, 0, 0));
        refused(BAD, () -> x.worst(-1, 0, 0), () -> x.worst(3, 0, 0), () -> x.worst(-1, 1, 0), () -> x.worst(3, 1, 0),
                () -> x.worst(LOW, 0, 0), () -> x.worst(HIGH, 0, 0));
    }

    private static void worstWhat() {
        sentence("37", "THE END (what = 0), the i-th of its DAYS (1). BAD");
        x.stone(0, 0, 1, 0);
        x.frost(0, true);
        due(2, x.worst(1, 0, 0));
        due(1, x.worst(1, 1, 0));
        refused(BAD, () -> x.worst(1, -1, 0), () -> x.worst(1, 2, 0), () -> x.worst(1, LOW, 0), () -> x.worst(1, HIGH, 0));
    }

    private static void worstIndex() {
        sentence("37", "NONE: .. not so many. BAD: of 1 i below 0, too");
        x.stone(0, 0, 1, 0);
        due(NONE, x.worst(0, 1, 0));
        due(0, x.worst(1, 1, 0));
        refused(NONE, () -> x.worst(1, 1, 1), () -> x.worst(1, 1, 2), () -> x.worst(1, 1, HIGH));
        due(0, x.worst(2, 1, 0));
        due(1, x.worst(2, 1, 1));
        refused(NONE, () -> x.worst(2, 1, 2), () -> x.worst(2, 1, HIGH), () -> x.worst(0, 1, HIGH));
        refused(BAD, () -> x.worst(0, 1, -1), () -> x.worst(1, 1, -1), () -> x.worst(2, 1, -1), () -> x.worst(2, 1, LOW));
    }

    private static void worstIndexNotLookedAt() {
        sentence("37", "THE END (what = 0; .. i is not looked at)");
        x.stone(0, 0, 1, 0);
        due(1, x.worst(1, 0, -1));
        due(1, x.worst(1, 0, LOW));
        due(1, x.worst(1, 0, HIGH));
        due(0, x.worst(0, 0, -1));
    }

    private static void worstOfNothing() {
        sentence("37", "NONE: no STONES");
        for (int f = 0; f <= 2; f++) {
            due(NONE, x.worst(f, 0, 0));
            due(NONE, x.worst(f, 1, 0));
        }
        refused(BAD, () -> x.worst(3, 0, 0), () -> x.worst(0, 2, 0), () -> x.worst(1, 1, -1));
        x.stone(0, 0, 1, 0);
        due(0, x.worst(0, 0, 0));
    }

    private static void worstOfNoDay() {
        sentence("37", "WORST for f 0: the one set without DAYS");
        x.stone(0, 0, 8, 0);
        worst(0, 0);
        lightOnlyOn(79);
        worst(0, 79);
        x.light(79, 79, 0);
        worst(0, 80);
        // There is such a set, whatever FROST there is.
        for (int day = 0; day < 80; day++) x.frost(day, true);
        worst(0, 80);
    }

    private static void worstOfOneDay() {
        sentence("37", "that by which THE END is latest, if they had it (f 1)");
        x.stone(0, 0, 8, 0);
        x.stone(0, 0, 8, 0);
        worst(1, 2, 0);
        // FROST on 0 or on 3 leaves one of them and 9.
        lightOnlyOn(0, 3, 9);
        worst(1, 9, 0);
        lightOnlyOn(0, 3, 4);
        worst(1, 4, 0);
        x.light(0, 0, 16);
        worst(1, 4, 0);
        x.light(3, 3, 16);
        worst(1, 3, 0);
        lightOnlyOn(3, 4, 9);
        x.light(0, 0, 7);
        worst(1, 9, 3);
    }

    private static void worstOfTwoDays() {
        sentence("37", "that by which THE END is latest, if they had it (f 2)");
        x.stone(0, 0, 8, 0);
        lightOnlyOn(3, 7, 9, 20);
        worst(1, 7, 3);
        worst(2, 9, 3, 7);
        x.light(7, 7, 0);
        worst(2, 20, 3, 9);
        x.light(20, 20, 0);
        worst(2, 80, 3, 9);
        x.light(9, 9, 0);
        worst(2, 80, 0, 3);
    }

    private static void worstDays() {
        sentence("37", "of all sets of f DAYS of 0 .. 59");
        x.stone(0, 0, 8, 0);
        lightOnlyOn(59, 70);
        worst(1, 70, 59);
        worst(2, 70, 0, 59);
        lightOnlyOn(60, 70);
        worst(1, 60, 0);
        worst(2, 60, 0, 1);
        lightOnlyOn(58, 59, 60);
        worst(2, 60, 58, 59);
        lightOnlyOn(0, 59, 79);
        worst(2, 79, 0, 59);
        lightOnlyOn(0, 60);
        worst(1, 60, 0);
        worst(2, 60, 0, 1);
    }

    private static void worstWithoutFrost() {
        sentence("37", "DAYS of 0 .. 59 without FROST");
        x.stone(0, 0, 8, 0);
        x.frost(0, true);
        worst(1, 2, 1);
        worst(2, 3, 1, 2);
        x.frost(2, true);
        worst(1, 3, 1);
        worst(2, 4, 1, 3);
        x.frost(1, true);
        worst(2, 5, 3, 4);
        due(3, x.count(6));
    }

    private static void worstOfNoSuchSet() {
        sentence("37", "NONE: .. no such set");
        x.stone(0, 0, 8, 0);
        for (int day = 0; day < 58; day++) x.frost(day, true);
        worst(2, 60, 58, 59);
        x.frost(58, true);
        due(NONE, x.worst(2, 0, 0));
        due(NONE, x.worst(2, 1, 0));
        due(NONE, x.worst(2, 1, 1));
        worst(1, 60, 59);
        x.frost(59, true);
        due(NONE, x.worst(1, 0, 0));
        due(NONE, x.worst(1, 1, 0));
        due(NONE, x.worst(2, 0, 0));
        worst(0, 60);
        x.frost(0, false);
        worst(1, 60, 0);
        due(NONE, x.worst(2, 0, 0));
    }

    private static void worstBeyond() {
        sentence("37", "(none is later than any); 80: beyond 79");
        x.stone(0, 0, 8, 0);
        lightOnlyOn(5, 79);
        worst(1, 79, 5);
        lightOnlyOn(5);
        worst(1, 80, 5);
        worst(2, 80, 0, 5);
        due(5, x.end());
        // By 10 THE END is on day 79; by 20 it is on none.
        again();
        x.stone(0, 0, 8, 0);
        x.stone(0, 0, 12, 0);
        x.light(0, 79, 0);
        x.light(10, 10, 8);
        x.light(15, 15, 8);
        x.light(20, 20, 12);
        worst(1, 80, 20);
        x.light(79, 79, 12);
        worst(1, 79, 20);
        worst(2, 79, 0, 20);
    }

    private static void worstBeyondFirst() {
        sentence("37", "of like ones the first by days (all on none)");
        x.stone(0, 0, 9, 0);
        worst(0, 80);
        worst(1, 80, 0);
        worst(2, 80, 0, 1);
        x.frost(0, true);
        worst(1, 80, 1);
        worst(2, 80, 1, 2);
    }

    private static void worstTies() {
        sentence("37", "of like ones the first by days, rising");
        x.stone(0, 0, 8, 0);
        x.stone(0, 1, 8, 1);
        // Any of days 0 .. 3 makes THE END day 4; any two of 0 .. 4 day 5.
        worst(1, 4, 0);
        worst(2, 5, 0, 1);
        x.frost(0, true);
        worst(1, 5, 1);
        worst(2, 6, 1, 2);
        again();
        x.stone(0, 0, 8, 0);
        lightOnlyOn(6, 30, 31, 32);
        worst(1, 30, 6);
        // 6 and 30, not 0 and 6.
        worst(2, 31, 6, 30);
        x.light(30, 32, 0);
        x.light(70, 70, 8);
        worst(2, 70, 0, 6);
    }

    private static void worstChangesNothing() {
        sentence("37", "if they had it");
        x.stone(0, 0, 8, 0);
        due(2, x.worst(2, 0, 0));
        due(0, x.laid(0));
        due(0, x.end());
        due(0, x.count(6));
        due(1, x.worst(1, 0, 0));
        due(2, x.worst(2, 0, 0));
        // Asked behind a change, it is found anew.
        x.light(0, 9, 0);
        worst(2, 12, 10, 11);
        x.stone(0, 1, 8, 1);
        worst(2, 15, 10, 11);
        x.mortar(0);
        worst(2, 13, 10, 11);
        x.frost(11, true);
        worst(2, 14, 10, 12);
        x.stand(0, 0, 0);
        x.stone(0, 0, 8, 0);
        worst(1, 14, 10);
        x.centrings(0);
        x.arched(1, 2);
        worst(1, 14, 10);
    }

    private static void badAheadOfNo() {
        sentence("32 to 37", "Refused, the first of: BAD, NO");
        x.frost(79, true);
        refused(BAD, () -> x.frost(80, true), () -> x.frost(80, false), () -> x.frost(-1, false));
        refused(NO, () -> x.frost(79, true), () -> x.frost(78, false));
        due(1, x.frost(78, true));
    }
}
