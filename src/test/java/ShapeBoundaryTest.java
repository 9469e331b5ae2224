/** The boundaries of part 5, shapes, and of counting, the digest and all refusals: promises 38 to 46. */
public final class ShapeBoundaryTest extends Sentences {
    public static void main(String[] args) {
        shapeOfNothing();
        placesOfCorners();
        eightCorners();
        threeCorners();
        areaWithoutSign();
        areaOfNothing();
        areaOfMost();
        sidesGoRound();
        middleWhat();
        middleOfFew();
        middleOfNoArea();
        middleInLowestTerms();
        middleOfNought();
        middleBelowNought();
        middleOfMost();
        tiltNumbers();
        tiltWhat();
        tiltRefused();
        tiltInLowestTerms();
        tiltOfNought();
        tiltOfMost();
        tiltWhateverHeight();
        steadyNumbers();
        steadyRefused();
        steadyBetween();
        steadyOnOne();
        steadyOfFractions();
        steadyBelowBoth();
        steadyAtOnePlace();
        holesNone();
        holesRefused();
        holesByTheLeast();
        holesTheFirst();
        holesOfEight();
        countWhat();
        countsGrow();
        digestOfAll();
        digestOfEachPart();
        digestOfFrost();
        fiveHundredTwelveCalls();
        finish();
    }

    private static void corners(int... places) {
        x.shape();
        for (int i = 0; i < places.length; i += 2) due(i / 2 + 1, x.corner(places[i], places[i + 1]));
    }

    private static void middle(long... due) {
        for (int what = 0; what < 4; what++) due(due[what], x.middle(what));
    }

    private static void tilt(int x1, int x2, long above, long below) {
        due(above, x.tilt(x1, 0, x2, 0, 0));
        due(below, x.tilt(x1, 0, x2, 0, 1));
    }

    private static void shapeOfNothing() {
        sentence("38", "A SHAPE without corners: how many it had");
        due(0, x.shape());
        x.corner(0, 0);
        due(1, x.shape());
        due(0, x.shape());
        due(0, x.count(5));
        for (int i = 0; i < 8; i++) x.corner(i, i * i);
        due(8, x.shape());
        due(0, x.count(5));
        due(1, x.corner(3, 3));
    }

    private static void placesOfCorners() {
        sentence("39", "corners (0 .. 1000 each). A corner more: how many. BAD");
        refused(BAD, () -> x.corner(-1, 0), () -> x.corner(1001, 0), () -> x.corner(0, -1), () -> x.corner(0, 1001),
                () -> x.corner(LOW, 0), () -> x.corner(HIGH, 0), () -> x.corner(0, LOW), () -> x.corner(0, HIGH));
        due(1, x.corner(0, 0));
        due(2, x.corner(1000, 0));
        due(3, x.corner(1000, 1000));
        due(4, x.corner(0, 1000));
        due(2000000, x.area());
    }

    private static void eightCorners() {
        sentence("39", "A SHAPE of 3 .. 8 corners. FULL: 8");
        for (int i = 1; i <= 7; i++) due(i, x.corner(i, 0));
        due(8, x.corner(8, 1));
        refused(FULL, () -> x.corner(0, 0), () -> x.corner(1000, 1000));
        refused(BAD, () -> x.corner(1001, 0), () -> x.corner(0, -1));
        due(8, x.count(5));
    }

    private static void threeCorners() {
        sentence("40", "NO: fewer than three corners");
        refused(NO, () -> x.area());
        corners(0, 0);
        refused(NO, () -> x.area());
        corners(0, 0, 5, 0);
        refused(NO, () -> x.area());
        corners(0, 0, 5, 0, 0, 5);
        due(25, x.area());
    }

    private static void areaWithoutSign() {
        sentence("40", "TWICE ITS AREA, with no sign");
        corners(0, 0, 1, 0, 0, 1);
        due(1, x.area());
        corners(0, 1, 1, 0, 0, 0);
        due(1, x.area());
        corners(0, 0, 0, 10, 10, 10, 10, 0);
        due(200, x.area());
    }

    private static void areaOfNothing() {
        sentence("40", "TWICE ITS AREA (0 of a line, of one place, of two that cancel)");
        corners(0, 0, 5, 5, 10, 10);
        due(0, x.area());
        corners(7, 7, 7, 7, 7, 7);
        due(0, x.area());
        corners(0, 0, 10, 10, 10, 0, 0, 10);
        due(0, x.area());
        corners(0, 0, 10, 11, 10, 0, 0, 10);
        due(10, x.area());
    }

    private static void areaOfMost() {
        sentence("40", "TWICE ITS AREA (round twice: more than any SHAPE that does not cross itself)");
        corners(0, 0, 1000, 0, 1000, 1000, 0, 1000, 0, 0, 1000, 0, 1000, 1000, 0, 1000);
        due(4000000, x.area());
        middle(500, 1, 500, 1);
    }

    private static void sidesGoRound() {
        sentence("40", "in order round (the last side ends at the first corner)");
        corners(3, 3, 7, 3, 3, 9);
        due(24, x.area());
        middle(13, 3, 5, 1);
        corners(7, 3, 3, 9, 3, 3);
        due(24, x.area());
        middle(13, 3, 5, 1);
        corners(3, 9, 3, 3, 7, 3);
        due(24, x.area());
        middle(13, 3, 5, 1);
    }

    private static void middleWhat() {
        sentence("41", "x above (0), x below (1), y above (2), y below (3). BAD: -2000000000");
        corners(0, 0, 1, 0, 0, 4);
        middle(1, 3, 4, 3);
        refused(LONG_BAD, () -> x.middle(-1), () -> x.middle(4), () -> x.middle(LOW), () -> x.middle(HIGH));
    }

    private static void middleOfFew() {
        sentence("41", "NO: -3000000000: fewer than three corners");
        refused(LONG_NO, () -> x.middle(0), () -> x.middle(3));
        refused(LONG_BAD, () -> x.middle(-1), () -> x.middle(4));
        corners(0, 0, 5, 0);
        refused(LONG_NO, () -> x.middle(0), () -> x.middle(1), () -> x.middle(2), () -> x.middle(3));
        x.corner(0, 5);
        middle(5, 3, 5, 3);
    }

    private static void middleOfNoArea() {
        sentence("41", "none, if the area is 0. NO: .. or no area");
        corners(0, 0, 5, 5, 10, 10);
        refused(LONG_NO, () -> x.middle(0), () -> x.middle(1), () -> x.middle(2), () -> x.middle(3));
        refused(LONG_BAD, () -> x.middle(-1), () -> x.middle(4));
        corners(0, 0, 10, 10, 10, 0, 0, 10);
        refused(LONG_NO, () -> x.middle(0));
        corners(0, 0, 5, 5, 10, 11);
        middle(5, 1, 16, 3);
    }

    private static void middleInLowestTerms() {
        sentence("41", "a fraction in lowest terms, below above 0");
        corners(0, 0, 6, 0, 0, 3);
        middle(2, 1, 1, 1);
        // The other way round the sums are below 0.
        corners(0, 3, 6, 0, 0, 0);
        middle(2, 1, 1, 1);
        corners(0, 0, 0, 1, 1, 0);
        middle(1, 3, 1, 3);
        corners(0, 0, 2, 0, 2, 3, 0, 3);
        middle(1, 1, 3, 2);
    }

    private static void middleOfNought() {
        sentence("41", "a fraction in lowest terms (0 by 1)");
        // Sides that cross: the sum for x is 0, that for y 3, by 3 times 1.
        corners(0, 0, 0, 2, 1, 0, 1, 1);
        due(1, x.area());
        middle(0, 1, 1, 1);
    }

    private static void middleBelowNought() {
        sentence("41", "ITS MIDDLE (below 0, where sides cross): below above 0");
        corners(0, 1, 4, 0, 0, 0, 3, 1);
        due(1, x.area());
        middle(7, 3, -2, 3);
        corners(3, 1, 0, 0, 4, 0, 0, 1);
        middle(7, 3, -2, 3);
    }

    private static void middleOfMost() {
        sentence("41", "the sum over sides of (x + x') (x y' - x' y) (that no int holds)");
        corners(0, 0, 1000, 0, 999, 1000);
        middle(1999, 3, 1000, 3);
        corners(1000, 1000, 999, 999, 1000, 998);
        middle(2999, 3, 999, 1);
        corners(0, 0, 1000, 0, 1000, 1000, 0, 1000);
        middle(500, 1, 500, 1);
        corners(0, 1000, 1000, 1000, 1000, 0, 0, 0);
        middle(500, 1, 500, 1);
    }

    private static void tiltNumbers() {
        sentence("42", "THE TILT by holes (0 .. 1000 each). BAD as middle()");
        corners(0, 0, 6, 0, 0, 3);
        due(2, x.tilt(0, 0, 0, 0, 0));
        due(-998, x.tilt(1000, 1000, 1000, 1000, 0));
        refused(LONG_BAD, () -> x.tilt(-1, 0, 0, 0, 0), () -> x.tilt(1001, 0, 0, 0, 0), () -> x.tilt(0, -1, 0, 0, 0),
                () -> x.tilt(0, 1001, 0, 0, 0), () -> x.tilt(0, 0, -1, 0, 0), () -> x.tilt(0, 0, 1001, 0, 0),
                () -> x.tilt(0, 0, 0, -1, 0), () -> x.tilt(0, 0, 0, 1001, 0), () -> x.tilt(LOW, LOW, LOW, LOW, 0),
                () -> x.tilt(HIGH, HIGH, HIGH, HIGH, 0));
    }

    private static void tiltWhat() {
        sentence("42", "above (0), below (1). BAD");
        corners(0, 0, 1, 0, 0, 1);
        due(-1, x.tilt(0, 5, 1, 9, 0));
        due(6, x.tilt(0, 5, 1, 9, 1));
        refused(LONG_BAD, () -> x.tilt(0, 5, 1, 9, -1), () -> x.tilt(0, 5, 1, 9, 2), () -> x.tilt(0, 5, 1, 9, LOW),
                () -> x.tilt(0, 5, 1, 9, HIGH));
    }

    private static void tiltRefused() {
        sentence("42", "NO as middle()");
        refused(LONG_NO, () -> x.tilt(0, 0, 1, 0, 0), () -> x.tilt(0, 0, 1, 0, 1));
        refused(LONG_BAD, () -> x.tilt(0, 0, 1, 0, 2), () -> x.tilt(0, 0, 1001, 0, 0));
        corners(0, 0, 1, 0);
        refused(LONG_NO, () -> x.tilt(0, 0, 1, 0, 0));
        corners(0, 0, 1, 0, 2, 0);
        refused(LONG_NO, () -> x.tilt(0, 0, 1, 0, 0));
        refused(LONG_BAD, () -> x.tilt(0, 0, 1, 0, -1), () -> x.tilt(0, -1, 1, 0, 0));
        corners(0, 0, 1, 0, 2, 1);
        tilt(0, 0, 1, 1);
    }

    private static void tiltInLowestTerms() {
        sentence("42", "ITS MIDDLE's x less half the sum of the holes' x; a fraction in lowest terms, below above 0");
        corners(0, 0, 10, 0, 10, 10, 0, 10);
        tilt(2, 9, -1, 2);
        tilt(2, 7, 1, 2);
        tilt(1, 7, 1, 1);
        tilt(3, 9, -1, 1);
        corners(0, 1, 1, 0, 0, 0);
        tilt(0, 0, 1, 3);
        tilt(0, 1, -1, 6);
        tilt(1, 1, -2, 3);
    }

    private static void tiltOfNought() {
        sentence("42", "a fraction in lowest terms (0 by 1)");
        corners(0, 0, 10, 0, 10, 10, 0, 10);
        tilt(5, 5, 0, 1);
        tilt(0, 10, 0, 1);
        tilt(10, 0, 0, 1);
        tilt(4, 5, 1, 2);
        tilt(5, 6, -1, 2);
    }

    private static void tiltOfMost() {
        sentence("42", "THE TILT (of the largest numbers)");
        corners(1000, 1000, 999, 999, 1000, 998);
        tilt(0, 0, 2999, 3);
        tilt(0, 1, 5995, 6);
        corners(0, 0, 1, 0, 0, 1);
        tilt(1000, 1000, -2999, 3);
        tilt(999, 1000, -5995, 6);
    }

    private static void tiltWhateverHeight() {
        sentence("42", "ITS MIDDLE's x less half the sum of the holes' x (their y tells nothing)");
        corners(0, 0, 10, 0, 10, 10, 0, 10);
        due(1, x.tilt(0, 0, 8, 0, 0));
        due(1, x.tilt(0, 1000, 8, 0, 0));
        due(1, x.tilt(0, 0, 8, 1000, 0));
        due(1, x.tilt(8, 0, 0, 0, 0));
    }

    private static void steadyNumbers() {
        sentence("43", "BAD: -2 (holes 0 .. 1000 each)");
        corners(0, 0, 1000, 0, 1000, 1000, 0, 1000);
        due(1, x.steady(0, 1000, 1000, 1000));
        due(0, x.steady(0, 0, 1000, 0));
        refused(-2, () -> x.steady(-1, 1000, 1000, 1000), () -> x.steady(0, 1001, 1000, 1000),
                () -> x.steady(0, 1000, 1001, 1000), () -> x.steady(0, 1000, 1000, 1001), () -> x.steady(1001, 0, 0, 0),
                () -> x.steady(0, -1, 0, 0), () -> x.steady(0, 0, -1, 0), () -> x.steady(0, 0, 0, -1),
                () -> x.steady(LOW, LOW, LOW, LOW), () -> x.steady(HIGH, HIGH, HIGH, HIGH));
    }

    private static void steadyRefused() {
        sentence("43", "NO: -3 (fewer than three corners, no area)");
        refused(-3, () -> x.steady(0, 0, 0, 0));
        refused(-2, () -> x.steady(0, 0, 0, 1001));
        corners(0, 0, 10, 0);
        refused(-3, () -> x.steady(0, 10, 10, 10));
        corners(0, 0, 10, 0, 20, 0);
        refused(-3, () -> x.steady(0, 10, 10, 10));
        refused(-2, () -> x.steady(0, -1, 10, 10));
        corners(0, 0, 10, 0, 5, 3);
        due(1, x.steady(0, 10, 10, 10));
    }

    private static void steadyBetween() {
        sentence("43", "if ITS MIDDLE's x lies between the holes' x");
        corners(0, 0, 10, 0, 10, 10, 0, 10);
        due(1, x.steady(4, 6, 6, 6));
        due(1, x.steady(6, 6, 4, 6));
        due(0, x.steady(6, 6, 7, 6));
        due(0, x.steady(3, 6, 4, 6));
        due(0, x.steady(7, 6, 6, 6));
        due(0, x.steady(4, 6, 3, 6));
    }

    private static void steadyOnOne() {
        sentence("43", "(or on one)");
        corners(0, 0, 10, 0, 10, 10, 0, 10);
        due(1, x.steady(5, 6, 9, 6));
        due(1, x.steady(9, 6, 5, 6));
        due(1, x.steady(1, 6, 5, 6));
        due(1, x.steady(5, 6, 1, 6));
        due(0, x.steady(6, 6, 9, 6));
        due(0, x.steady(1, 6, 4, 6));
    }

    private static void steadyOfFractions() {
        sentence("43", "lies between (nothing is cut: 16 by 3)");
        corners(5, 0, 6, 0, 5, 3);
        middle(16, 3, 1, 1);
        due(1, x.steady(5, 2, 6, 2));
        due(0, x.steady(4, 2, 5, 2));
        due(0, x.steady(6, 2, 7, 2));
        corners(0, 5, 3, 6, 0, 6);
        middle(1, 1, 17, 3);
        // Above 17 by 3 is 6, but 5 is not.
        due(1, x.steady(0, 6, 3, 6));
        due(0, x.steady(0, 5, 3, 6));
        due(0, x.steady(0, 6, 3, 5));
    }

    private static void steadyBelowBoth() {
        sentence("43", "its y is below (less than) both holes' y");
        corners(0, 0, 10, 0, 10, 10, 0, 10);
        due(1, x.steady(0, 6, 10, 6));
        due(0, x.steady(0, 5, 10, 6));
        due(0, x.steady(0, 6, 10, 5));
        due(0, x.steady(0, 5, 10, 5));
        due(0, x.steady(0, 4, 10, 1000));
        due(0, x.steady(0, 1000, 10, 4));
    }

    private static void steadyAtOnePlace() {
        sentence("43", "between the holes' x (or on one): both at one x");
        corners(0, 0, 10, 0, 10, 10, 0, 10);
        due(1, x.steady(5, 6, 5, 6));
        due(1, x.steady(5, 6, 5, 9));
        due(0, x.steady(4, 6, 4, 6));
        due(0, x.steady(6, 6, 6, 6));
        due(0, x.steady(5, 5, 5, 5));
    }

    private static void holesNone() {
        sentence("44", "NONE: none");
        // Only one corner lies above the middle.
        corners(0, 0, 10, 0, 5, 10);
        due(NONE, x.holes());
        corners(0, 10, 10, 10, 5, 0);
        due(1, x.holes());
        // Two do, but on one side of it.
        corners(0, 0, 20, 0, 4, 20, 3, 20);
        due(1, x.middle(0) > 4 * x.middle(1) ? 1 : 0);
        due(NONE, x.holes());
    }

    private static void holesRefused() {
        sentence("44", "NO (fewer than three corners, no area)");
        refused(NO, () -> x.holes());
        corners(0, 10, 10, 10);
        refused(NO, () -> x.holes());
        corners(0, 10, 5, 10, 10, 10);
        refused(NO, () -> x.holes());
        x.corner(5, 0);
        due(2, x.holes());
    }

    private static void holesByTheLeast() {
        sentence("44", "with the least size of TILT");
        corners(0, 0, 10, 0, 10, 10, 7, 10, 2, 10, 0, 10);
        due(25, x.holes());
        // The middle's x is 248 by 47, some 5.28: 10 and 2 TILT by 0.72 below 0, 8 and 2 by 0.28 above.
        corners(0, 0, 10, 0, 10, 10, 8, 10, 2, 10, 0, 4);
        due(248, x.middle(0));
        due(47, x.middle(1));
        due(34, x.holes());
        // 7 and 2 by 0.78 above.
        corners(0, 0, 10, 0, 10, 10, 7, 10, 2, 10, 0, 4);
        due(24, x.holes());
    }

    private static void holesTheFirst() {
        sentence("44", "of all two corners p below q .. the first");
        corners(0, 0, 10, 0, 10, 10, 8, 10, 2, 10, 0, 10);
        // 10 and 0, 8 and 2 alike TILT by 0.
        due(25, x.holes());
        corners(2, 10, 0, 10, 0, 0, 10, 0, 10, 10, 8, 10);
        due(5, x.holes());
        corners(0, 10, 10, 10, 10, 0, 0, 0);
        due(1, x.holes());
        corners(0, 10, 10, 10, 10, 9, 10, 0, 0, 0);
        due(1, x.holes());
    }

    private static void holesOfEight() {
        sentence("44", "HOLES FOUND: 10 p and q (of eight corners: 67)");
        corners(0, 0, 2, 0, 4, 0, 6, 0, 8, 0, 10, 0, 10, 10, 0, 10);
        due(67, x.holes());
        corners(0, 10, 0, 0, 2, 0, 4, 0, 6, 0, 8, 0, 10, 0, 10, 10);
        due(7, x.holes());
    }

    private static void countWhat() {
        sentence("45", "How many: 0 MEN .. 8 M. BAD");
        for (int i = 0; i < 3; i++) x.man(70);
        for (int i = 0; i < 4; i++) x.rope(1000);
        for (int i = 0; i < 5; i++) x.load(1);
        for (int i = 0; i < 6; i++) x.stone(0, 0, 1, 0);
        for (int i = 0; i < 2; i++) x.stand(0, 0, 0);
        for (int i = 0; i < 7; i++) x.corner(0, 0);
        for (int i = 0; i < 9; i++) x.frost(i, true);
        x.centrings(4);
        x.mortar(8);
        int[] due = {3, 4, 5, 6, 2, 7, 9, 4, 8};
        for (int what = 0; what <= 8; what++) due(due[what], x.count(what));
        refused(BAD, () -> x.count(-1), () -> x.count(9), () -> x.count(LOW), () -> x.count(HIGH));
    }

    private static void countsGrow() {
        sentence("45", "How many (a refused call adds none)");
        x.man(39);
        x.rope(99);
        x.load(0);
        x.stone(31, 0, 1, 0);
        x.stand(0, 0, -1);
        x.corner(0, 1001);
        x.frost(80, true);
        x.frost(0, false);
        for (int what = 0; what <= 6; what++) due(0, x.count(what));
        for (int i = 0; i < 20; i++) {
            x.man(70);
            x.rope(1000);
            x.load(1);
            x.stone(0, 0, 1, 0);
            x.stand(0, 0, 0);
            x.corner(0, 0);
        }
        int[] most = {8, 6, 12, 14, 5, 8};
        for (int what = 0; what <= 5; what++) due(most[what], x.count(what));
    }

    /** The numbers of the digest, with LIGHT of 80 DAYS between what is ahead of it and the corners. */
    private static long digestOf(int[] ahead, int[] light, int... corners) {
        long[] all = new long[ahead.length + 80 + corners.length];
        for (int i = 0; i < ahead.length; i++) all[i] = ahead[i];
        for (int i = 0; i < 80; i++) all[ahead.length + i] = light[i];
        for (int i = 0; i < corners.length; i++) all[ahead.length + 80 + i] = corners[i];
        return digestOf(all);
    }

    private static void digestOfAll() {
        sentence("46", "h = 271; then h = 31 h + v for each v (wrapping round)");
        x.wheel(900, 30, 50, 7);
        x.winds(3, 4);
        x.reach(9, 5);
        x.man(71);
        x.man(82);
        x.rest(3);
        x.rope(2000);
        x.pull(0, 1000);
        x.wet(0, true);
        x.load(11);
        x.load(12);
        x.stone(1, 2, 3, 0);
        x.stone(4, 5, 6, 1);
        x.arched(0, 1);
        x.stand(7, 8, 9);
        x.stand(10, 11, 12);
        x.stand(13, 12, 16383);
        x.price(0, 1, 21);
        x.price(2, 0, 22);
        x.price(1, 2, 23);
        x.corner(31, 32);
        x.corner(33, 34);
        x.frost(7, true);
        x.light(0, 0, 0);
        x.light(79, 79, 16);
        x.centrings(3);
        x.mortar(5);
        int[] ahead = {2, 1, 2, 2, 3, 2, 1, 3, 5, 900, 30, 50, 7, 3, 4, 9, 5, 71, 1006, 82, 1006, 2000, 3, 1, 0, 1495,
            11, 12, 1, 2, 3, 0, 1, 4, 5, 6, 1, NONE, 7, 8, 9, 10, 11, 12, 13, 12, 16383, 21, 22, 23};
        int[] light = new int[80];
        java.util.Arrays.fill(light, 8);
        light[0] = 0;
        light[79] = 16;
        due(digestOf(ahead, light, 31, 32, 33, 34), x.digest());
        due(digestOf(ahead, light, 31, 32, 33, 34), x.digest());
        // A PARTED ROPE: about(.., 3) is 1 and (.., 4) is 0.
        x.pull(0, 50000);
        ahead[24] = 1;
        ahead[25] = 0;
        due(digestOf(ahead, light, 31, 32, 33, 34), x.digest());
        x.shape();
        ahead[5] = 0;
        due(digestOf(ahead, light), x.digest());
    }

    private static void digestOfEachPart() {
        sentence("46", "count(0) to count(8); W, S, A, F, r, T, R, H; .. (what is told changes it)");
        long before = x.digest();
        Runnable[] calls = {() -> x.wheel(1001, 40, 60, 10), () -> x.wheel(1001, 41, 60, 10), () -> x.wheel(1001, 41, 61, 10),
            () -> x.wheel(1001, 41, 61, 11), () -> x.winds(3, 5), () -> x.winds(3, 6), () -> x.reach(9, 4), () -> x.reach(9, 5),
            () -> x.man(70), () -> x.rest(1), () -> x.rope(1000), () -> x.pull(0, 1), () -> x.wet(0, true), () -> x.load(1),
            () -> x.stone(0, 0, 1, 0), () -> x.stone(0, 0, 1, 1), () -> x.arched(0, 1), () -> x.stand(0, 0, 0),
            () -> x.stand(0, 0, 0), () -> x.price(0, 1, 2), () -> x.centrings(2), () -> x.light(79, 79, 9),
            () -> x.frost(79, true), () -> x.mortar(3), () -> x.corner(0, 0), () -> x.pull(0, 50000)};
        for (Runnable call : calls) {
            call.run();
            long behind = x.digest();
            due(1, behind != before ? 1 : 0);
            before = behind;
        }
        // Questions change nothing.
        x.steps(100);
        x.can(1, 100, 60);
        x.fewest(100, 60);
        x.bears(1000);
        x.blamed(1000, 0);
        x.may(0, 0);
        x.orders();
        x.plan();
        x.act(0);
        x.laid(0);
        x.end();
        x.worst(2, 0, 0);
        x.holes();
        due(before, x.digest());
    }

    private static void digestOfFrost() {
        sentence("46", "of DAYS LIGHT (kept under FROST)");
        int[] ahead = {0, 0, 0, 0, 0, 0, 1, 1, 2, 1000, 40, 60, 10, 2, 5, 8, 4};
        int[] light = new int[80];
        java.util.Arrays.fill(light, 8);
        x.frost(0, true);
        due(digestOf(ahead, light), x.digest());
        x.light(0, 0, 3);
        light[0] = 3;
        due(digestOf(ahead, light), x.digest());
        x.frost(0, false);
        ahead[6] = 0;
        due(digestOf(ahead, light), x.digest());
    }

    private static void fiveHundredTwelveCalls() {
        sentence("What it is", "An object is used for at most 512 calls after it has been made");
        for (int i = 0; i < 14; i++) x.stone(i, 0, 1, 0);
        for (int j = 0; j < 5; j++) x.stand(6 * j, 0, 0);
        // 19 calls so far, 492 of these, and one more.
        for (int i = 0; i < 246; i++) {
            x.price(0, 1, 1 + i % 100);
            due(1, x.plan());
        }
        due(46, x.price(0, 1, 100));
    }
}
