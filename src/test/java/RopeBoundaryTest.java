/** The boundaries of part 2, ropes and rows of loads: promises 13 to 20. */
public final class RopeBoundaryTest extends Sentences {
    public static void main(String[] args) {
        numbersOfRopes();
        strengths();
        sixRopes();
        newRope();
        wetOfWhich();
        wetAsItIs();
        wetWhenParted();
        aboutWhat();
        aboutWhich();
        holdsCut();
        holdsWet();
        holdsNothing();
        holdsParted();
        partsAbove();
        partsAboveWet();
        wearByOne();
        wearBySquare();
        shareIsCut();
        loadsOfPulls();
        ropesOfPulls();
        pullOfParted();
        loadsOfTheRow();
        twelveLoads();
        clearing();
        bearsStrength();
        bearsTheFirst();
        bearsNone();
        bearsWears();
        bearsNewAndDry();
        blamedStrength();
        blamedLoad();
        blamedAsTold();
        blamedNone();
        blamedTwice();
        blamedAtNoneAhead();
        blamedFewest();
        blamedLeast();
        blamedUpToK();
        blamedLongest();
        badAheadOfOthers();
        finish();
    }

    private static void loads(int... all) {
        x.clear();
        for (int v : all) x.load(v);
    }

    private static void numbersOfRopes() {
        sentence("13", "ROPES 0 .. 5, as they come");
        for (int i = 0; i < 6; i++) {
            due(i, x.rope(100 + i));
            due(i + 1, x.count(1));
            due(100 + i, x.about(i, 0));
        }
    }

    private static void strengths() {
        sentence("13", "STRENGTH (100 .. 50000). BAD");
        refused(BAD, () -> x.rope(99), () -> x.rope(50001), () -> x.rope(0), () -> x.rope(-1000), () -> x.rope(LOW),
                () -> x.rope(HIGH));
        due(0, x.rope(100));
        due(1, x.rope(50000));
        due(100, x.about(0, 4));
        due(50000, x.about(1, 4));
    }

    private static void sixRopes() {
        sentence("13", "FULL: 6");
        for (int i = 0; i < 5; i++) x.rope(1000);
        due(5, x.rope(1000));
        refused(FULL, () -> x.rope(1000), () -> x.rope(100), () -> x.rope(50000));
        refused(BAD, () -> x.rope(99), () -> x.rope(50001));
        // A PARTED one keeps its place.
        x.pull(0, 1001);
        refused(FULL, () -> x.rope(1000));
        due(6, x.count(1));
    }

    private static void newRope() {
        sentence("13", "WEAR (thousandths, 0 at first), are WET or dry, whole or PARTED");
        x.rope(777);
        due(777, x.about(0, 0));
        due(0, x.about(0, 1));
        due(0, x.about(0, 2));
        due(0, x.about(0, 3));
        due(777, x.about(0, 4));
    }

    private static void wetOfWhich() {
        sentence("14", "WET, or dry: 1. BAD");
        refused(BAD, () -> x.wet(0, true), () -> x.wet(0, false));
        for (int i = 0; i < 6; i++) x.rope(1000);
        refused(BAD, () -> x.wet(-1, true), () -> x.wet(6, true), () -> x.wet(-1, false), () -> x.wet(6, false),
                () -> x.wet(LOW, true), () -> x.wet(HIGH, false));
        due(1, x.wet(0, true));
        due(1, x.wet(5, true));
        for (int i = 0; i < 6; i++) due(i == 0 || i == 5 ? 1 : 0, x.about(i, 2));
    }

    private static void wetAsItIs() {
        sentence("14", "NO: it is so");
        x.rope(1000);
        refused(NO, () -> x.wet(0, false));
        due(1, x.wet(0, true));
        refused(NO, () -> x.wet(0, true));
        due(1, x.wet(0, false));
        refused(NO, () -> x.wet(0, false));
        due(0, x.about(0, 2));
    }

    private static void wetWhenParted() {
        sentence("14", "WET, or dry: 1 (of a PARTED one, too)");
        x.rope(1000);
        x.pull(0, 1001);
        due(1, x.wet(0, true));
        due(1, x.about(0, 2));
        due(1, x.about(0, 3));
        due(0, x.about(0, 4));
        refused(NO, () -> x.wet(0, true));
    }

    private static void aboutWhat() {
        sentence("15", "0 STRENGTH, 1 WEAR, 2 WET, 3 PARTED, 4 what it HOLDS. BAD (what)");
        x.rope(1000);
        x.pull(0, 500);
        x.wet(0, true);
        int[] due = {1000, 3, 1, 0, 747};
        for (int what = 0; what <= 4; what++) due(due[what], x.about(0, what));
        refused(BAD, () -> x.about(0, -1), () -> x.about(0, 5), () -> x.about(0, LOW), () -> x.about(0, HIGH));
    }

    private static void aboutWhich() {
        sentence("15", "Of a ROPE. BAD (rope)");
        refused(BAD, () -> x.about(0, 0), () -> x.about(-1, 0));
        x.rope(100);
        due(100, x.about(0, 0));
        refused(BAD, () -> x.about(1, 0));
        for (int i = 1; i < 6; i++) x.rope(100 + i);
        due(105, x.about(5, 0));
        refused(BAD, () -> x.about(6, 0), () -> x.about(-1, 4), () -> x.about(LOW, 0), () -> x.about(HIGH, 0));
    }

    private static void holdsCut() {
        sentence("15", "One HOLDS STRENGTH (1000 less WEAR, 0 at least) by 1000, cut");
        x.rope(1000);
        x.rope(999);
        x.rope(103);
        for (int i = 0; i < 3; i++) due(1, x.pull(i, 1));
        due(999, x.about(0, 4));
        due(998, x.about(1, 4));
        due(102, x.about(2, 4));
        for (int i = 0; i < 3; i++) due(1, x.pull(i, 1));
        due(998, x.about(0, 4));
        due(997, x.about(1, 4));
        due(102, x.about(2, 4));
    }

    private static void holdsWet() {
        sentence("15", "WET three by four of that, cut");
        int[] strengths = {100, 101, 102, 103, 50000};
        int[] held = {75, 75, 76, 77, 37500};
        for (int i = 0; i < 5; i++) {
            x.rope(strengths[i]);
            due(1, x.wet(i, true));
            due(held[i], x.about(i, 4));
            due(1, x.wet(i, false));
            due(strengths[i], x.about(i, 4));
        }
        // 107 * 989 by 1000 are 105.8; three by four of 105 are 78.75, of 105.8 were 79.4.
        x.rope(107);
        x.pull(5, 107);
        due(105, x.about(5, 4));
        x.wet(5, true);
        due(78, x.about(5, 4));
    }

    private static void holdsNothing() {
        sentence("15", "(1000 less WEAR, 0 at least)");
        int wear = 0;
        x.rope(50000);
        for (int pulls = 0; pulls < 490; pulls++) {
            int held = 50000 * (1000 - wear) / 1000;
            int share = held * 100 / 50000;
            wear += 1 + share * share / 1000;
            due(1, x.pull(0, held));
        }
        due(999, wear);
        due(999, x.about(0, 1));
        due(50, x.about(0, 4));
        due(1, x.pull(0, 50));
        due(1000, x.about(0, 1));
        due(0, x.about(0, 4));
        due(0, x.pull(0, 1));
        due(1, x.about(0, 3));
        due(1000, x.about(0, 1));
    }

    private static void holdsParted() {
        sentence("15", "what it HOLDS (PARTED: 0)");
        x.rope(1000);
        x.wet(0, true);
        due(0, x.pull(0, 751));
        due(0, x.about(0, 4));
        x.wet(0, false);
        due(0, x.about(0, 4));
        due(1000, x.about(0, 0));
        due(0, x.about(0, 1));
        due(1, x.about(0, 3));
    }

    private static void partsAbove() {
        sentence("16", "PULLED by a load it PARTS, if that is above what it HOLDS. 1; 0: it PARTS");
        x.rope(1000);
        due(1, x.pull(0, 1000));
        due(989, x.about(0, 4));
        due(1, x.pull(0, 989));
        due(979, x.about(0, 4));
        due(0, x.pull(0, 980));
        due(1, x.about(0, 3));
        x.rope(100);
        due(0, x.pull(1, 101));
        x.rope(100);
        due(1, x.pull(2, 100));
        due(0, x.about(2, 3));
    }

    private static void partsAboveWet() {
        sentence("16", "above what it HOLDS; WET three by four of that");
        x.rope(1000);
        x.wet(0, true);
        due(1, x.pull(0, 750));
        // By 75 its WEAR is 6: 994, three by four are 745.
        due(745, x.about(0, 4));
        due(0, x.pull(0, 746));
    }

    private static void wearByOne() {
        sentence("16", "else WEAR grows by 1 and c c by 1000, cut");
        x.rope(1000);
        due(1, x.pull(0, 1));
        due(1, x.about(0, 1));
        due(1, x.pull(0, 319));
        due(2, x.about(0, 1));
        due(1, x.pull(0, 320));
        due(4, x.about(0, 1));
        due(1, x.pull(0, 449));
        due(6, x.about(0, 1));
        due(1, x.pull(0, 450));
        due(9, x.about(0, 1));
    }

    private static void wearBySquare() {
        sentence("16", "c c by 1000, cut (most: a load of all its STRENGTH)");
        x.rope(50000);
        due(1, x.pull(0, 50000));
        due(11, x.about(0, 1));
        x.rope(50000);
        due(1, x.pull(1, 49999));
        // c is 99: 9801 by 1000.
        due(10, x.about(1, 1));
    }

    private static void shareIsCut() {
        sentence("16", "with c load times 100 by STRENGTH, cut");
        x.rope(50000);
        due(1, x.pull(0, 15999));
        due(1, x.about(0, 1));
        due(1, x.pull(0, 16000));
        due(3, x.about(0, 1));
        x.rope(103);
        // 32 by 103 are 31 of 100, 33 are 32.
        due(1, x.pull(1, 32));
        due(1, x.about(1, 1));
        due(1, x.pull(1, 33));
        due(3, x.about(1, 1));
        // WET or dry, c is told by the STRENGTH.
        x.wet(0, true);
        due(1, x.pull(0, 15999));
        due(4, x.about(0, 1));
    }

    private static void loadsOfPulls() {
        sentence("16", "PULLED by a load (1 .. 50000). BAD");
        x.rope(50000);
        refused(BAD, () -> x.pull(0, 0), () -> x.pull(0, 50001), () -> x.pull(0, -1), () -> x.pull(0, LOW),
                () -> x.pull(0, HIGH));
        due(1, x.pull(0, 50000));
        due(1, x.pull(0, 1));
    }

    private static void ropesOfPulls() {
        sentence("16", "PULLED. BAD (rope)");
        refused(BAD, () -> x.pull(0, 1), () -> x.pull(-1, 1));
        for (int i = 0; i < 6; i++) x.rope(1000);
        due(1, x.pull(0, 1));
        due(1, x.pull(5, 1));
        refused(BAD, () -> x.pull(6, 1), () -> x.pull(-1, 1), () -> x.pull(LOW, 1), () -> x.pull(HIGH, 1));
        for (int i = 0; i < 6; i++) due(i == 0 || i == 5 ? 1 : 0, x.about(i, 1));
    }

    private static void pullOfParted() {
        sentence("16", "NO: PARTED");
        x.rope(1000);
        due(0, x.pull(0, 1001));
        refused(NO, () -> x.pull(0, 1), () -> x.pull(0, 1001), () -> x.pull(0, 50000));
        refused(BAD, () -> x.pull(0, 0), () -> x.pull(0, 50001));
    }

    private static void loadsOfTheRow() {
        sentence("17", "A load (1 .. 50000) behind the ROW: how many. BAD");
        refused(BAD, () -> x.load(0), () -> x.load(50001), () -> x.load(-1), () -> x.load(LOW), () -> x.load(HIGH));
        due(1, x.load(1));
        due(2, x.load(50000));
        due(2, x.count(2));
        due(1, x.bears(49999));
        due(1, x.bears(50000));
    }

    private static void twelveLoads() {
        sentence("17", "A ROW of loads, 12 at most. FULL: 12");
        for (int i = 1; i <= 11; i++) due(i, x.load(1));
        due(12, x.load(100));
        refused(FULL, () -> x.load(1), () -> x.load(50000));
        refused(BAD, () -> x.load(0), () -> x.load(50001));
        due(12, x.count(2));
        due(11, x.bears(100));
        due(12, x.clear());
        due(1, x.load(1));
    }

    private static void clearing() {
        sentence("18", "The ROW is empty: how many");
        due(0, x.clear());
        x.load(7);
        due(1, x.clear());
        due(0, x.count(2));
        due(0, x.clear());
        for (int i = 0; i < 12; i++) x.load(50000);
        due(0, x.bears(100));
        due(12, x.clear());
        due(NONE, x.bears(100));
        refused(BAD, () -> x.blamed(100, 0));
    }

    private static void bearsStrength() {
        sentence("19", "BAD: STRENGTH");
        loads(100);
        due(NONE, x.bears(100));
        due(NONE, x.bears(50000));
        refused(BAD, () -> x.bears(99), () -> x.bears(50001), () -> x.bears(0), () -> x.bears(-1), () -> x.bears(LOW),
                () -> x.bears(HIGH));
    }

    private static void bearsTheFirst() {
        sentence("19", "BEARS: the first at which it PARTS");
        loads(500, 600, 700);
        due(0, x.bears(499));
        due(1, x.bears(500));
        due(1, x.bears(599));
        loads(101, 102, 103);
        due(0, x.bears(100));
    }

    private static void bearsNone() {
        sentence("19", "none. NONE");
        due(NONE, x.bears(100));
        loads(1000);
        due(NONE, x.bears(1000));
        due(0, x.bears(999));
        loads(50000);
        due(NONE, x.bears(50000));
    }

    private static void bearsWears() {
        sentence("19", "PULLED by a load .. WEAR grows (from load to load)");
        loads(1000, 989);
        due(NONE, x.bears(1000));
        loads(1000, 990);
        due(1, x.bears(1000));
        loads(1000, 989, 979);
        due(NONE, x.bears(1000));
        loads(1000, 989, 980);
        due(2, x.bears(1000));
    }

    private static void bearsNewAndDry() {
        sentence("19", "told for a new ROPE of a STRENGTH, dry");
        x.rope(1000);
        x.wet(0, true);
        x.pull(0, 700);
        loads(1000);
        due(NONE, x.bears(1000));
        due(5, x.about(0, 1));
        // Asked twice, the ROPE is new twice.
        due(NONE, x.bears(1000));
    }

    private static void blamedStrength() {
        sentence("20", "BAD (STRENGTH 100 .. 50000)");
        loads(60);
        due(1, x.blamed(100, 0));
        due(NONE, x.blamed(50000, 0));
        refused(BAD, () -> x.blamed(99, 0), () -> x.blamed(50001, 0), () -> x.blamed(-1, 0), () -> x.blamed(LOW, 0),
                () -> x.blamed(HIGH, 0));
    }

    private static void blamedLoad() {
        sentence("20", "BAD: also no load k");
        refused(BAD, () -> x.blamed(1000, 0), () -> x.blamed(1000, -1));
        loads(600, 600);
        due(1, x.blamed(1000, 0));
        due(2, x.blamed(1000, 1));
        refused(BAD, () -> x.blamed(1000, 2), () -> x.blamed(1000, -1), () -> x.blamed(1000, 11), () -> x.blamed(1000, 12),
                () -> x.blamed(1000, LOW), () -> x.blamed(1000, HIGH));
    }

    private static void blamedAsTold() {
        sentence("20", "NO: as told it PARTS at k or ahead");
        loads(400, 900, 800);
        // It PARTS at load 1: 0 is ahead of that.
        due(1, x.bears(799));
        due(1, x.blamed(799, 0));
        refused(NO, () -> x.blamed(799, 1), () -> x.blamed(799, 2));
        refused(NO, () -> x.blamed(399, 0), () -> x.blamed(399, 2));
        loads(1000, 990);
        due(1, x.bears(1000));
        due(1, x.blamed(1000, 0));
        refused(NO, () -> x.blamed(1000, 1));
        loads(1000, 989);
        due(2, x.blamed(1000, 1));
    }

    private static void blamedNone() {
        sentence("20", "none, if there is none. NONE");
        loads(500);
        due(NONE, x.blamed(1000, 0));
        due(1, x.blamed(999, 0));
        loads(25000);
        due(NONE, x.blamed(50000, 0));
        loads(25001);
        due(1, x.blamed(50000, 0));
        // Twice, those ahead wear by 4, 7 and 2: 987 are HELD, and twice 487 is not above that.
        loads(301, 399, 201, 487);
        for (int k = 0; k < 4; k++) due(NONE, x.blamed(1000, k));
        loads(399, 301, 103, 201, 7, 301, 401);
        for (int k = 0; k < 7; k++) due(NONE, x.blamed(1000, k));
    }

    private static void blamedTwice() {
        sentence("20", "of loads 0 .. k that in truth were twice as told");
        loads(50000);
        due(1, x.blamed(50000, 0));
        // The load ahead wears by 2 as told (c 40), by 7 twice (c 80): 993 are HELD.
        loads(400, 994);
        due(1, x.blamed(1000, 1));
        loads(400, 993);
        due(2, x.blamed(1000, 1));
        loads(400, 497);
        due(NONE, x.blamed(1000, 0));
        // Twice 497 are 994: above 993, not above 998.
        due(3, x.blamed(1000, 1));
        loads(400, 496);
        due(NONE, x.blamed(1000, 1));
    }

    private static void blamedAtNoneAhead() {
        sentence("20", "that by which it PARTS at k and at none ahead");
        // 500 twice wears by 11, so that 990 PARTS as told; 501 twice PARTS itself.
        loads(500, 990);
        due(1, x.blamed(1000, 1));
        loads(501, 990);
        due(2, x.blamed(1000, 1));
        loads(500, 498);
        due(3, x.blamed(1000, 1));
        loads(501, 498);
        due(NONE, x.blamed(1000, 1));
    }

    private static void blamedFewest() {
        sentence("20", "the one with the fewest loads");
        // 0 and 1 twice (bits 3) make 987 PART as told; twice 987 (bits 4) needs no other one.
        loads(400, 400, 987);
        due(4, x.blamed(1000, 2));
        // Load 2 twice, 988, PARTS only behind 13 of WEAR: by 0 and 1 twice (7 and 7), as told 2 and 2.
        loads(400, 400, 494);
        due(7, x.blamed(1000, 2));
        // With the last one twice, 988, 0 alone wears enough (11 for 3), 1 and 2 only together (5 for 2 each).
        loads(500, 350, 350, 494);
        due(9, x.blamed(1000, 3));
    }

    private static void blamedLeast() {
        sentence("20", "of like ones the least number");
        loads(400, 400, 994);
        due(1, x.blamed(1000, 2));
        // Load 0 twice or load 1 twice: 7 and 2 of WEAR; as told 4.
        loads(400, 400, 992);
        due(1, x.blamed(1000, 2));
        loads(100, 400, 993);
        due(2, x.blamed(1000, 2));
        // The last one twice, 986, needs two of those ahead: 0 and 1, ahead of 0 and 2, and of 1 and 2.
        loads(400, 400, 400, 493);
        due(11, x.blamed(1000, 3));
        // 1 and 2 (bits 6) make the last one PART as 0 and 3 (bits 9) do: by 6 of WEAR more.
        loads(200, 350, 350, 400, 494);
        due(22, x.blamed(1000, 4));
    }

    private static void blamedUpToK() {
        sentence("20", "of all sets of loads 0 .. k");
        loads(600, 600, 600);
        due(1, x.blamed(1000, 0));
        due(2, x.blamed(1000, 1));
        due(4, x.blamed(1000, 2));
        // What comes behind k is not looked at: as told it PARTS at 1.
        loads(600, 2000);
        due(1, x.bears(1000));
        due(1, x.blamed(1000, 0));
        refused(NO, () -> x.blamed(1000, 1));
    }

    private static void blamedLongest() {
        sentence("20", "A ROW of loads, 12 at most (BLAMED for the last)");
        for (int i = 0; i < 12; i++) x.load(i < 11 ? 1 : 600);
        due(2048, x.blamed(1000, 11));
        x.clear();
        for (int i = 0; i < 12; i++) x.load(i < 11 ? 400 : 461);
        // As told 22 of WEAR, 7 instead of 2 for each one twice: 922 needs 79, all of them give 77.
        due(NONE, x.blamed(1000, 11));
        x.clear();
        for (int i = 0; i < 12; i++) x.load(i < 11 ? 400 : 462);
        due(4095, x.blamed(1000, 11));
    }

    private static void badAheadOfOthers() {
        sentence("13 to 20", "Refused, the first of: BAD, NO, FULL");
        loads(600);
        refused(BAD, () -> x.blamed(599, 1), () -> x.blamed(599, -1), () -> x.blamed(99, 0));
        refused(NO, () -> x.blamed(599, 0));
        due(1, x.blamed(600, 0));
    }
}
