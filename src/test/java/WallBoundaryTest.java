/** The boundaries of part 3, stones, stands and plans: promises 21 to 31. */
public final class WallBoundaryTest extends Sentences {
    public static void main(String[] args) {
        numbersOfStones();
        placesOfStones();
        coursesOfStones();
        hoursOfStones();
        restsOfStones();
        fourteenStones();
        archedOfWhich();
        archedByItself();
        archedAlready();
        keysOfAnyNumber();
        centrings();
        centringsAtFirst();
        numbersOfStands();
        placesOfStands();
        needsOfStands();
        fiveStands();
        pricesOfWhich();
        pricesAlike();
        priceNumbers();
        priceThereAndBack();
        reachNumbers();
        reachAtFirst();
        reachSideways();
        reachUpwards();
        reachesOfWhich();
        maySets();
        mayWhich();
        mayIfNotLaid();
        mayOnWhatIsLaid();
        mayNoMoreArches();
        mayOneKeyOfMany();
        mayKeyAtOnce();
        mayWithTooMany();
        ordersOfNothing();
        ordersOfAll();
        ordersOfNone();
        ordersWhateverIsInReach();
        planWithoutStands();
        planOfNothing();
        planOfNone();
        craneAtFirst();
        shiftWhenAllAreLaid();
        shiftBackToTheFirst();
        shiftNeedsWhatNeverComes();
        planHoldsArches();
        leastSumOfPrices();
        leastSumAheadOfTheRow();
        firstAsARow();
        planFoundAnew();
        actNumbers();
        actsOfNone();
        longestPlan();
        badAheadOfOthers();
        finish();
    }

    private static void stones(int n) {
        for (int i = 0; i < n; i++) x.stone(0, 0, 1, 0);
    }

    private static void acts(int price, int... row) {
        due(price, x.plan());
        for (int i = 0; i < row.length; i++) due(row[i], x.act(i));
        due(NONE, x.act(row.length));
    }

    private static void numbersOfStones() {
        sentence("21", "STONES 0 .. 13, as they come");
        for (int i = 0; i < 14; i++) {
            due(i, x.stone(i, 0, 1, 0));
            due(i + 1, x.count(3));
        }
    }

    private static void placesOfStones() {
        sentence("21", "a place x (0 .. 30). BAD");
        refused(BAD, () -> x.stone(-1, 0, 1, 0), () -> x.stone(31, 0, 1, 0), () -> x.stone(LOW, 0, 1, 0),
                () -> x.stone(HIGH, 0, 1, 0));
        due(0, x.stone(0, 0, 1, 0));
        due(1, x.stone(30, 0, 1, 0));
        x.stand(8, 0, 0);
        x.stand(22, 0, 0);
        due(1, x.reaches(0, 0));
        due(0, x.reaches(0, 1));
        due(0, x.reaches(1, 0));
        due(1, x.reaches(1, 1));
    }

    private static void coursesOfStones() {
        sentence("21", "a COURSE z (0 .. 12). BAD");
        refused(BAD, () -> x.stone(0, -1, 1, 0), () -> x.stone(0, 13, 1, 0), () -> x.stone(0, LOW, 1, 0),
                () -> x.stone(0, HIGH, 1, 0));
        due(0, x.stone(0, 0, 1, 0));
        due(1, x.stone(0, 12, 1, 0));
        x.stand(0, 7, 0);
        x.stand(0, 8, 0);
        due(1, x.reaches(0, 0));
        due(0, x.reaches(0, 1));
        due(1, x.reaches(1, 1));
    }

    private static void hoursOfStones() {
        sentence("21", "HOURS (1 .. 12). BAD");
        refused(BAD, () -> x.stone(0, 0, 0, 0), () -> x.stone(0, 0, 13, 0), () -> x.stone(0, 0, -1, 0),
                () -> x.stone(0, 0, LOW, 0), () -> x.stone(0, 0, HIGH, 0));
        due(0, x.stone(0, 0, 1, 0));
        due(1, x.stone(0, 0, 12, 0));
        x.light(0, 79, 12);
        x.light(0, 0, 1);
        due(0, x.laid(0));
        due(1, x.laid(1));
        x.light(1, 1, 11);
        due(2, x.laid(1));
    }

    private static void restsOfStones() {
        sentence("21", "REST on others (bits, of lesser numbers). BAD");
        refused(BAD, () -> x.stone(0, 0, 1, 1), () -> x.stone(0, 0, 1, -1), () -> x.stone(0, 0, 1, LOW),
                () -> x.stone(0, 0, 1, HIGH));
        due(0, x.stone(0, 0, 1, 0));
        refused(BAD, () -> x.stone(0, 0, 1, 2), () -> x.stone(0, 0, 1, 3));
        due(1, x.stone(0, 0, 1, 1));
        refused(BAD, () -> x.stone(0, 0, 1, 4), () -> x.stone(0, 0, 1, 8192));
        due(2, x.stone(0, 0, 1, 3));
        for (int i = 3; i < 13; i++) due(i, x.stone(0, 0, 1, 0));
        refused(BAD, () -> x.stone(0, 0, 1, 8192), () -> x.stone(0, 0, 1, -1));
        due(13, x.stone(0, 0, 1, 8191));
        due(1, x.may(8191, 13));
        due(0, x.may(8190, 13));
        due(0, x.may(4095, 13));
    }

    private static void fourteenStones() {
        sentence("21", "FULL: 14");
        stones(13);
        due(13, x.stone(30, 12, 12, 8191));
        refused(FULL, () -> x.stone(0, 0, 1, 0), () -> x.stone(30, 12, 12, 16383));
        refused(BAD, () -> x.stone(0, 0, 1, 16384), () -> x.stone(31, 0, 1, 0), () -> x.stone(0, 13, 1, 0),
                () -> x.stone(0, 0, 13, 0), () -> x.stone(0, 0, 1, -1));
        due(14, x.count(3));
    }

    private static void archedOfWhich() {
        sentence("22", "A STONE is ARCHED, its KEY another one: 1. BAD");
        refused(BAD, () -> x.arched(0, 1), () -> x.arched(0, 0));
        stones(1);
        refused(BAD, () -> x.arched(0, 1), () -> x.arched(1, 0), () -> x.arched(0, 0));
        stones(2);
        refused(BAD, () -> x.arched(3, 0), () -> x.arched(0, 3), () -> x.arched(-1, 0), () -> x.arched(0, -1),
                () -> x.arched(LOW, 0), () -> x.arched(0, HIGH), () -> x.arched(HIGH, LOW));
        due(1, x.arched(0, 2));
        due(1, x.arched(2, 1));
    }

    private static void archedByItself() {
        sentence("22", "BAD: itself, too");
        stones(3);
        refused(BAD, () -> x.arched(0, 0), () -> x.arched(1, 1), () -> x.arched(2, 2));
        due(1, x.arched(1, 2));
        refused(BAD, () -> x.arched(1, 1));
    }

    private static void archedAlready() {
        sentence("22", "NO: it is ARCHED already");
        stones(3);
        due(1, x.arched(0, 1));
        refused(NO, () -> x.arched(0, 1), () -> x.arched(0, 2));
        refused(BAD, () -> x.arched(0, 0), () -> x.arched(0, 3), () -> x.arched(0, -1));
        // The first KEY stays.
        x.centrings(0);
        due(0, x.may(4, 0));
        due(1, x.may(2, 0));
        // A KEY may be ARCHED, and be the KEY of more than one.
        due(1, x.arched(1, 2));
        due(1, x.arched(2, 1));
    }

    private static void keysOfAnyNumber() {
        sentence("22", "their KEY (a STONE, told later)");
        stones(14);
        due(1, x.arched(0, 13));
        due(1, x.arched(13, 0));
        x.centrings(0);
        due(0, x.may(0, 0));
        due(0, x.may(0, 13));
        x.centrings(1);
        due(1, x.may(0, 0));
        due(1, x.may(1, 13));
    }

    private static void centrings() {
        sentence("23", "C (0 .. 5): what it was. BAD");
        refused(BAD, () -> x.centrings(-1), () -> x.centrings(6), () -> x.centrings(LOW), () -> x.centrings(HIGH));
        due(1, x.centrings(0));
        due(0, x.count(7));
        due(0, x.centrings(5));
        due(5, x.count(7));
        refused(BAD, () -> x.centrings(-1), () -> x.centrings(6));
        due(5, x.centrings(5));
        due(5, x.centrings(3));
    }

    private static void centringsAtFirst() {
        sentence("23", "C (0 .. 5; 1 at first)");
        due(1, x.count(7));
        stones(4);
        x.arched(0, 2);
        x.arched(1, 3);
        due(1, x.may(0, 0));
        due(0, x.may(1, 1));
        due(1, x.centrings(1));
    }

    private static void numbersOfStands() {
        sentence("24", "STANDS 0 .. 4, as they come");
        for (int i = 0; i < 5; i++) {
            due(i, x.stand(i, 0, 0));
            due(i + 1, x.count(4));
        }
    }

    private static void placesOfStands() {
        sentence("24", "STANDS have x, z (as STONES: 0 .. 30, 0 .. 12). BAD");
        refused(BAD, () -> x.stand(-1, 0, 0), () -> x.stand(31, 0, 0), () -> x.stand(0, -1, 0), () -> x.stand(0, 13, 0),
                () -> x.stand(LOW, 0, 0), () -> x.stand(HIGH, 0, 0), () -> x.stand(0, LOW, 0), () -> x.stand(0, HIGH, 0));
        due(0, x.stand(0, 0, 0));
        due(1, x.stand(30, 12, 0));
        x.stone(22, 12, 1, 0);
        x.stone(8, 4, 1, 0);
        due(0, x.reaches(0, 0));
        due(1, x.reaches(0, 1));
        due(1, x.reaches(1, 0));
        due(0, x.reaches(1, 1));
    }

    private static void needsOfStands() {
        sentence("24", "NEED STONES (bits, of those that come later, too). BAD: NEEDS 0 .. 16383");
        refused(BAD, () -> x.stand(0, 0, -1), () -> x.stand(0, 0, 16384), () -> x.stand(0, 0, LOW), () -> x.stand(0, 0, HIGH));
        due(0, x.stand(0, 0, 0));
        due(1, x.stand(20, 0, 16383));
        due(2, x.stand(20, 0, 8192));
        stones(13);
        x.stone(20, 0, 1, 0);
        due(NONE, x.plan());
        x.reach(20, 1);
        due(0, x.plan());
    }

    private static void fiveStands() {
        sentence("24", "FULL: 5");
        for (int i = 0; i < 4; i++) x.stand(0, 0, 0);
        due(4, x.stand(30, 12, 16383));
        refused(FULL, () -> x.stand(0, 0, 0), () -> x.stand(30, 12, 16383));
        refused(BAD, () -> x.stand(31, 0, 0), () -> x.stand(0, 13, 0), () -> x.stand(0, 0, 16384), () -> x.stand(0, 0, -1));
        due(5, x.count(4));
    }

    private static void pricesOfWhich() {
        sentence("25", "A PRICE to SHIFT between two. BAD (stands)");
        refused(BAD, () -> x.price(0, 1, 1));
        x.stand(0, 0, 0);
        refused(BAD, () -> x.price(0, 1, 1), () -> x.price(1, 0, 1));
        for (int i = 1; i < 5; i++) x.stand(0, 0, 0);
        due(1, x.price(0, 4, 2));
        due(1, x.price(4, 3, 2));
        refused(BAD, () -> x.price(0, 5, 1), () -> x.price(5, 0, 1), () -> x.price(-1, 0, 1), () -> x.price(0, -1, 1),
                () -> x.price(LOW, 0, 1), () -> x.price(0, HIGH, 1));
    }

    private static void pricesAlike() {
        sentence("25", "BAD: also alike");
        x.stand(0, 0, 0);
        x.stand(0, 0, 0);
        refused(BAD, () -> x.price(0, 0, 1), () -> x.price(1, 1, 1), () -> x.price(2, 2, 1));
        due(1, x.price(0, 1, 1));
    }

    private static void priceNumbers() {
        sentence("25", "(1 .. 100; 1 at first). BAD");
        x.stand(0, 0, 0);
        x.stand(0, 0, 0);
        refused(BAD, () -> x.price(0, 1, 0), () -> x.price(0, 1, 101), () -> x.price(0, 1, -1), () -> x.price(0, 1, LOW),
                () -> x.price(0, 1, HIGH));
        due(1, x.price(0, 1, 100));
        due(100, x.price(0, 1, 1));
        due(1, x.price(0, 1, 1));
        for (int i = 2; i < 5; i++) x.stand(0, 0, 0);
        for (int a = 0; a < 5; a++) for (int b = a + 1; b < 5; b++) due(1, x.price(a, b, 10 * a + b));
        for (int a = 0; a < 5; a++) for (int b = a + 1; b < 5; b++) due(10 * a + b, x.price(a, b, 1));
    }

    private static void priceThereAndBack() {
        sentence("25", "there and back alike. What it was");
        x.stone(0, 0, 1, 0);
        x.stone(20, 0, 1, 1);
        x.stone(0, 1, 1, 2);
        x.stand(0, 0, 0);
        x.stand(20, 0, 0);
        due(1, x.price(1, 0, 7));
        due(7, x.price(0, 1, 8));
        due(8, x.price(1, 0, 9));
        acts(18, 0, 101, 1, 100, 2);
    }

    private static void reachNumbers() {
        sentence("26", "R (1 .. 30), H (1 .. 12): 1. BAD");
        refused(BAD, () -> x.reach(0, 4), () -> x.reach(31, 4), () -> x.reach(8, 0), () -> x.reach(8, 13),
                () -> x.reach(LOW, 4), () -> x.reach(HIGH, 4), () -> x.reach(8, LOW), () -> x.reach(8, HIGH));
        x.stand(0, 0, 0);
        x.stone(1, 1, 1, 0);
        x.stone(2, 1, 1, 0);
        x.stone(1, 2, 1, 0);
        x.stone(30, 12, 1, 0);
        due(1, x.reach(1, 1));
        due(1, x.reaches(0, 0));
        due(0, x.reaches(0, 1));
        due(0, x.reaches(0, 2));
        due(1, x.reach(30, 12));
        due(1, x.reaches(0, 3));
        due(1, x.reach(29, 12));
        due(0, x.reaches(0, 3));
        due(1, x.reach(30, 11));
        due(0, x.reaches(0, 3));
        // One of both wrong: neither is taken.
        refused(BAD, () -> x.reach(1, 13), () -> x.reach(0, 1));
        due(0, x.reaches(0, 3));
    }

    private static void reachAtFirst() {
        sentence("26", "R (1 .. 30; 8), H (1 .. 12; 4)");
        x.stand(10, 3, 0);
        x.stone(18, 7, 1, 0);
        x.stone(19, 7, 1, 0);
        x.stone(18, 8, 1, 0);
        due(1, x.reaches(0, 0));
        due(0, x.reaches(0, 1));
        due(0, x.reaches(0, 2));
    }

    private static void reachSideways() {
        sentence("27", "in REACH, if x differs by R at most");
        x.stand(15, 0, 0);
        x.reach(5, 1);
        int[] places = {9, 10, 11, 15, 19, 20, 21};
        int[] due = {0, 1, 1, 1, 1, 1, 0};
        for (int i = 0; i < places.length; i++) {
            x.stone(places[i], 0, 1, 0);
            due(due[i], x.reaches(0, i));
        }
    }

    private static void reachUpwards() {
        sentence("27", "and their COURSE is no more than z and H");
        x.stand(0, 6, 0);
        x.reach(1, 3);
        int[] courses = {0, 5, 6, 8, 9, 10, 12};
        int[] due = {1, 1, 1, 1, 1, 0, 0};
        for (int i = 0; i < courses.length; i++) {
            x.stone(0, courses[i], 1, 0);
            due(due[i], x.reaches(0, i));
        }
    }

    private static void reachesOfWhich() {
        sentence("27", "1, 0. BAD");
        refused(BAD, () -> x.reaches(0, 0));
        x.stone(0, 0, 1, 0);
        refused(BAD, () -> x.reaches(0, 0));
        for (int i = 0; i < 5; i++) x.stand(0, 0, 0);
        stones(1);
        due(1, x.reaches(0, 0));
        due(1, x.reaches(4, 1));
        refused(BAD, () -> x.reaches(5, 0), () -> x.reaches(0, 2), () -> x.reaches(-1, 0), () -> x.reaches(0, -1),
                () -> x.reaches(LOW, 0), () -> x.reaches(HIGH, 0), () -> x.reaches(0, LOW), () -> x.reaches(0, HIGH));
        stones(12);
        due(1, x.reaches(0, 13));
        refused(BAD, () -> x.reaches(0, 14));
    }

    private static void maySets() {
        sentence("28", "BAD: the set, too");
        stones(2);
        due(1, x.may(0, 0));
        due(0, x.may(3, 0));
        refused(BAD, () -> x.may(4, 0), () -> x.may(-1, 0), () -> x.may(LOW, 0), () -> x.may(HIGH, 0));
        stones(12);
        due(1, x.may(16382, 0));
        due(0, x.may(16383, 0));
        refused(BAD, () -> x.may(16384, 0));
    }

    private static void mayWhich() {
        sentence("28", "one may be laid: 1, 0. BAD");
        refused(BAD, () -> x.may(0, 0));
        stones(2);
        due(1, x.may(0, 1));
        refused(BAD, () -> x.may(0, 2), () -> x.may(0, -1), () -> x.may(0, LOW), () -> x.may(0, HIGH));
        stones(12);
        due(1, x.may(8191, 13));
        refused(BAD, () -> x.may(8191, 14), () -> x.may(0, 32));
    }

    private static void mayIfNotLaid() {
        sentence("28", "A STONE may be laid, if it is not");
        stones(2);
        due(1, x.may(0, 0));
        due(0, x.may(1, 0));
        due(1, x.may(2, 0));
        due(0, x.may(3, 0));
    }

    private static void mayOnWhatIsLaid() {
        sentence("28", "all on which it RESTS are");
        stones(3);
        x.stone(0, 1, 1, 5);
        due(0, x.may(0, 3));
        due(0, x.may(1, 3));
        due(0, x.may(4, 3));
        due(0, x.may(3, 3));
        due(0, x.may(6, 3));
        due(1, x.may(5, 3));
        due(1, x.may(7, 3));
    }

    private static void mayNoMoreArches() {
        sentence("28", "of ARCHES there are no more than C then");
        stones(12);
        for (int i = 0; i < 6; i++) x.arched(i, 6 + i);
        for (int c = 0; c <= 5; c++) {
            x.centrings(c);
            // So many are laid already that the next one is the last that C bears; then one too many.
            if (c > 0) due(1, x.may((1 << c - 1) - 1, c - 1));
            due(0, x.may((1 << c) - 1, c));
            // A STONE that is not ARCHED needs no CENTRING of its own.
            due(1, x.may((1 << c) - 1, 11));
        }
    }

    private static void mayOneKeyOfMany() {
        sentence("28", "ARCHES (KEYS that are not laid, with an ARCHED STONE that is)");
        stones(6);
        x.arched(0, 3);
        x.arched(1, 3);
        x.arched(2, 3);
        x.arched(4, 5);
        // All of one KEY are one ARCH.
        due(1, x.may(0, 0));
        due(1, x.may(1, 1));
        due(1, x.may(3, 2));
        due(0, x.may(7, 4));
        due(0, x.may(1, 4));
        due(1, x.may(8, 4));
        due(1, x.may(9, 4));
        // A KEY that is laid ahead leaves none.
        due(1, x.may(24, 0));
    }

    private static void mayKeyAtOnce() {
        sentence("28", "(A KEY lays its own free at once.)");
        stones(4);
        x.arched(0, 1);
        x.arched(1, 2);
        // KEY 1 is ARCHED itself: its own ARCH comes, that of STONE 0 goes.
        due(1, x.may(1, 1));
        x.arched(2, 3);
        due(1, x.may(3, 2));
        x.centrings(0);
        due(0, x.may(0, 0));
        due(0, x.may(2, 0));
        due(1, x.may(14, 0));
        due(0, x.may(1, 1));
        due(1, x.may(7, 3));
    }

    private static void mayWithTooMany() {
        sentence("28", "there are no more than C then (of a set that has more already)");
        stones(6);
        x.arched(0, 3);
        x.arched(1, 4);
        x.centrings(0);
        due(0, x.may(1, 2));
        due(1, x.may(1, 3));
        due(0, x.may(3, 3));
        due(1, x.may(11, 4));
        x.centrings(1);
        due(1, x.may(3, 3));
        due(0, x.may(3, 5));
        x.centrings(2);
        due(1, x.may(3, 5));
    }

    private static void ordersOfNothing() {
        sentence("29", "ORDERS (1 of no STONES)");
        due(1, x.orders());
        stones(1);
        due(1, x.orders());
        stones(1);
        due(2, x.orders());
    }

    private static void ordersOfAll() {
        sentence("29", "in how many orders all STONES may be laid");
        long product = 1;
        for (int n = 1; n <= 14; n++) {
            stones(1);
            product *= n;
            due(product, x.orders());
        }
        again();
        for (int i = 0; i < 14; i++) x.stone(0, 0, 1, i == 0 ? 0 : 1 << i - 1);
        due(1, x.orders());
        again();
        stones(3);
        x.arched(0, 2);
        x.centrings(0);
        due(3, x.orders());
        x.centrings(1);
        due(6, x.orders());
    }

    private static void ordersOfNone() {
        sentence("29", "ORDERS (0, where none may be)");
        stones(1);
        x.stone(0, 1, 1, 1);
        x.arched(0, 1);
        due(1, x.orders());
        x.centrings(0);
        due(0, x.orders());
        x.centrings(5);
        due(1, x.orders());
    }

    private static void ordersWhateverIsInReach() {
        sentence("29", "whatever is in REACH");
        x.stone(0, 0, 1, 0);
        x.stone(30, 12, 1, 0);
        due(2, x.orders());
        x.stand(0, 0, 16383);
        due(2, x.orders());
        due(NONE, x.plan());
        x.reach(1, 1);
        due(2, x.orders());
    }

    private static void planWithoutStands() {
        sentence("30", "NO: no STANDS");
        refused(NO, () -> x.plan());
        stones(1);
        refused(NO, () -> x.plan(), () -> x.act(0));
        x.stand(0, 0, 0);
        acts(0, 0);
    }

    private static void planOfNothing() {
        sentence("30", "till all are laid (no STONES: at once)");
        x.stand(0, 0, 0);
        acts(0);
        x.stand(5, 5, 16383);
        acts(0);
        stones(1);
        acts(0, 0);
    }

    private static void planOfNone() {
        sentence("30", "NONE: there is none");
        x.stone(8, 4, 1, 0);
        x.stand(0, 0, 0);
        acts(0, 0);
        x.stone(9, 4, 1, 0);
        due(NONE, x.plan());
        x.reach(9, 4);
        acts(0, 0, 1);
        x.stone(8, 5, 1, 0);
        due(NONE, x.plan());
        x.reach(9, 5);
        acts(0, 0, 1, 2);
        x.reach(8, 5);
        due(NONE, x.plan());
        due(NONE, x.act(0));
        x.reach(9, 5);
        acts(0, 0, 1, 2);
        x.arched(0, 1);
        x.arched(1, 2);
        x.arched(2, 0);
        x.centrings(0);
        due(NONE, x.plan());
        x.centrings(1);
        acts(0, 0, 1, 2);
    }

    private static void craneAtFirst() {
        sentence("30", "the crane at STAND 0 (it stands there whatever that NEEDS)");
        stones(2);
        x.stand(0, 0, 16383);
        acts(0, 0, 1);
        again();
        stones(1);
        x.stand(20, 0, 0);
        x.stand(0, 0, 0);
        // It is at 0 even if another one were better.
        acts(1, 101, 0);
    }

    private static void shiftWhenAllAreLaid() {
        sentence("30", "It may SHIFT to a STAND the STONES of which are all laid");
        stones(2);
        x.stone(20, 0, 1, 0);
        x.stand(0, 0, 0);
        x.stand(20, 0, 3);
        acts(1, 0, 1, 101, 2);
        again();
        x.stone(0, 0, 1, 0);
        x.stone(20, 0, 1, 0);
        x.stone(0, 1, 1, 2);
        x.stand(0, 0, 0);
        x.stand(20, 0, 1);
        acts(2, 0, 101, 1, 100, 2);
        x.stand(20, 0, 4);
        acts(2, 0, 101, 1, 100, 2);
        // The one STAND in REACH needs what is laid only from there.
        again();
        stones(1);
        x.stone(20, 0, 1, 0);
        x.stand(0, 0, 0);
        x.stand(20, 0, 3);
        due(NONE, x.plan());
        x.stand(20, 0, 1);
        acts(1, 0, 102, 1);
    }

    private static void shiftBackToTheFirst() {
        sentence("30", "SHIFT to a STAND the STONES of which are all laid (back to 0, too)");
        x.stone(0, 0, 1, 0);
        x.stone(20, 0, 1, 1);
        x.stone(0, 1, 1, 2);
        x.stand(0, 0, 4);
        x.stand(20, 0, 0);
        due(NONE, x.plan());
        again();
        x.stone(0, 0, 1, 0);
        x.stone(20, 0, 1, 1);
        x.stone(0, 1, 1, 2);
        x.stand(0, 0, 2);
        x.stand(20, 0, 0);
        acts(2, 0, 101, 1, 100, 2);
    }

    private static void shiftNeedsWhatNeverComes() {
        sentence("30", "NEED STONES (of those that come later, too)");
        stones(1);
        x.stone(20, 0, 1, 0);
        x.stand(0, 0, 0);
        x.stand(20, 0, 4);
        due(NONE, x.plan());
        x.stone(0, 0, 1, 0);
        acts(1, 0, 2, 101, 1);
    }

    private static void planHoldsArches() {
        sentence("30", "lay STONE i (as it may be laid)");
        stones(4);
        x.arched(0, 2);
        x.arched(1, 3);
        x.stand(0, 0, 0);
        // STONE 1 behind 0 would be a second ARCH.
        acts(0, 0, 2, 1, 3);
        x.centrings(2);
        acts(0, 0, 1, 2, 3);
        x.centrings(0);
        acts(0, 2, 0, 3, 1);
    }

    private static void leastSumOfPrices() {
        sentence("30", "that with the least sum of PRICES");
        x.stone(20, 0, 1, 0);
        x.stand(0, 0, 0);
        x.stand(20, 0, 0);
        x.stand(5, 0, 0);
        x.price(0, 1, 3);
        acts(2, 102, 101, 0);
        x.price(0, 1, 2);
        acts(2, 101, 0);
        x.price(0, 1, 100);
        x.price(0, 2, 99);
        acts(100, 101, 0);
        x.price(0, 2, 98);
        acts(99, 102, 101, 0);
        // All the way round costs less than the two that are next to each other.
        x.stand(5, 0, 0);
        x.stand(5, 0, 0);
        x.price(0, 2, 100);
        x.price(0, 3, 1);
        x.price(3, 1, 100);
        x.price(3, 2, 100);
        x.price(0, 4, 100);
        x.price(3, 4, 1);
        x.price(4, 2, 1);
        x.price(4, 1, 100);
        acts(4, 103, 104, 102, 101, 0);
    }

    private static void leastSumAheadOfTheRow() {
        sentence("30", "that with the least sum of PRICES, (only) of like ones the first as a row");
        x.stone(0, 0, 1, 0);
        x.stone(20, 0, 1, 0);
        x.stone(1, 0, 1, 0);
        x.stone(1, 1, 1, 4);
        x.arched(0, 1);
        x.arched(2, 3);
        x.stand(0, 0, 0);
        x.stand(20, 0, 0);
        // STONE 0, laid at once, would keep the one CENTRING till the crane has shifted, and it had to come back.
        acts(1, 2, 3, 0, 101, 1);
        x.centrings(2);
        acts(1, 0, 2, 3, 101, 1);
    }

    private static void planFoundAnew() {
        sentence("30", "THE PLAN (behind each call that changes it)");
        x.stand(0, 0, 0);
        acts(0);
        x.stone(0, 0, 1, 0);
        acts(0, 0);
        x.stone(20, 0, 1, 0);
        due(NONE, x.plan());
        x.stand(20, 0, 0);
        acts(1, 0, 101, 1);
        x.price(0, 1, 5);
        acts(5, 0, 101, 1);
        due(2, x.orders());
        x.arched(0, 1);
        due(2, x.orders());
        acts(5, 0, 101, 1);
        x.centrings(0);
        due(1, x.orders());
        acts(10, 101, 1, 100, 0);
        x.arched(1, 0);
        due(0, x.orders());
        due(NONE, x.plan());
        x.centrings(1);
        acts(5, 0, 101, 1);
        x.reach(20, 1);
        acts(0, 0, 1);
        again();
        x.centrings(0);
        stones(2);
        x.stand(0, 0, 0);
        acts(0, 0, 1);
        due(2, x.orders());
        x.arched(0, 1);
        acts(0, 1, 0);
        due(1, x.orders());
    }

    private static void firstAsARow() {
        sentence("30", "of like ones the first as a row of numbers");
        // By numbers, and a lay ahead of a SHIFT.
        stones(2);
        x.stone(20, 0, 1, 0);
        x.stand(0, 0, 0);
        x.stand(20, 0, 0);
        acts(1, 0, 1, 101, 2);
        // From STAND 3 or 2 alike: the lesser one.
        again();
        x.stone(20, 0, 1, 0);
        x.stand(0, 0, 0);
        x.stand(0, 0, 0);
        x.stand(20, 0, 0);
        x.stand(20, 0, 0);
        acts(1, 102, 0);
        // By the way of 1, if that costs the same as straight: 101 is ahead of 102.
        x.price(0, 2, 2);
        x.price(0, 3, 2);
        acts(2, 101, 102, 0);
        // A STONE with a lesser number that comes into REACH is laid there, ahead of the next SHIFT.
        again();
        x.stone(10, 0, 1, 0);
        x.stone(20, 0, 1, 0);
        x.stand(0, 0, 0);
        x.stand(10, 0, 0);
        x.stand(20, 0, 0);
        x.reach(9, 1);
        x.price(0, 2, 2);
        acts(2, 101, 0, 102, 1);
        x.reach(10, 1);
        acts(1, 0, 101, 1);
    }

    private static void actNumbers() {
        sentence("31", "Act i. NONE: not so many. BAD: i below 0");
        stones(2);
        x.stand(0, 0, 0);
        due(0, x.act(0));
        due(1, x.act(1));
        refused(NONE, () -> x.act(2), () -> x.act(70), () -> x.act(HIGH));
        refused(BAD, () -> x.act(-1), () -> x.act(LOW));
    }

    private static void actsOfNone() {
        sentence("31", "NONE: .. none. NO");
        refused(NO, () -> x.act(0), () -> x.act(HIGH));
        refused(BAD, () -> x.act(-1));
        x.stand(0, 0, 0);
        due(NONE, x.act(0));
        x.stone(9, 0, 1, 0);
        due(NONE, x.act(0));
        x.stone(0, 0, 1, 0);
        // Not all can be laid: there is no PLAN, not even the half of one.
        due(NONE, x.act(0));
        refused(BAD, () -> x.act(-1));
        x.reach(9, 1);
        due(0, x.act(0));
    }

    private static void longestPlan() {
        sentence("31", "Act i of THE PLAN (the longest: all STONES, four SHIFTS ahead of each)");
        for (int i = 0; i < 14; i++) x.stone(i % 2 == 0 ? 28 : 0, 0, 1, i == 0 ? 0 : 1 << i - 1);
        for (int j = 0; j < 5; j++) x.stand(7 * j, 0, 0);
        x.reach(6, 1);
        for (int a = 0; a < 5; a++) for (int b = a + 2; b < 5; b++) x.price(a, b, 100);
        due(56, x.plan());
        due(101, x.act(0));
        due(104, x.act(3));
        due(0, x.act(4));
        due(103, x.act(5));
        due(13, x.act(69));
        due(NONE, x.act(70));
        for (int a = 0; a < 4; a++) x.price(a, a + 1, 100);
        due(1400, x.plan());
        due(104, x.act(0));
        due(13, x.act(27));
        due(NONE, x.act(28));
    }

    private static void badAheadOfOthers() {
        sentence("21 to 31", "Refused, the first of: BAD, NO, FULL");
        refused(BAD, () -> x.act(-1), () -> x.act(LOW));
        stones(14);
        x.arched(0, 1);
        refused(BAD, () -> x.arched(0, 14), () -> x.arched(0, 0), () -> x.stone(31, 0, 1, 0));
        for (int i = 0; i < 5; i++) x.stand(0, 0, 0);
        refused(BAD, () -> x.stand(0, 0, 16384), () -> x.stand(0, 13, 0));
        refused(FULL, () -> x.stand(0, 0, 0), () -> x.stone(0, 0, 1, 0));
        refused(NO, () -> x.arched(0, 2));
    }
}
