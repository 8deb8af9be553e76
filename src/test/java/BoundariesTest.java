/**
 * A test for each sentence of the document that names a boundary case: the least and the greatest
 * that is taken, the first that is refused on either side, a wrap-around, a call that is refused.
 * The answers are written out; they were computed apart from the class, by the document's words.
 */
public final class BoundariesTest {
    private static final int MIN = Integer.MIN_VALUE;
    private static final int MAX = Integer.MAX_VALUE;
    private static final int INFINITY = -1;
    private static final int MOST_CALLS = 512;

    private static String sentence = "";
    private static int sentences = 0;
    private static int wrong = 0;

    private static void test(String name, Runnable body) {
        sentence = name;
        sentences++;
        body.run();
    }

    private static void due(String call, long got, long want) {
        if (got != want) {
            wrong++;
            System.out.println(sentence + ": " + call + " answered " + got + ", due is " + want);
        }
    }

    private static void due(String call, boolean got, boolean want) {
        due(call, got ? 1 : 0, want ? 1 : 0);
    }

    private static int xy(int x, int y) {
        return 4096 * x + y;
    }

    private static CurveDesk desk(int p, int a, int b) {
        CurveDesk desk = new CurveDesk();
        take(desk, p, a, b);
        return desk;
    }

    private static void take(CurveDesk desk, int p, int a, int b) {
        due("curve(" + p + ", " + a + ", " + b + ")", desk.curve(p, a, b), 0);
    }

    private static void refuse(CurveDesk desk, int p, int a, int b, int want) {
        due("curve(" + p + ", " + a + ", " + b + ")", desk.curve(p, a, b), want);
    }

    /** yy = xxx + x + 1 modulo 5, the curve of a new object. */
    private static final int[] POINTS_5_1_1 = {
        xy(0, 1), xy(0, 4), xy(2, 1), xy(2, 4), xy(3, 1), xy(3, 4), xy(4, 2), xy(4, 3), INFINITY
    };

    /** yy = xxx + 2x modulo 5: no curve has fewer points. */
    private static final int[] POINTS_5_2_0 = {xy(0, 0), INFINITY};

    /** yy = xxx + 3x modulo 5: each x has a point. */
    private static final int[] POINTS_5_3_0 = {
        xy(0, 0), xy(1, 2), xy(1, 3), xy(2, 2), xy(2, 3), xy(3, 1), xy(3, 4), xy(4, 1), xy(4, 4), INFINITY
    };

    /** yy = xxx - x modulo 7: three points with y 0, at the least and the greatest x too. */
    private static final int[] POINTS_7_6_0 = {
        xy(0, 0), xy(1, 0), xy(4, 2), xy(4, 5), xy(5, 1), xy(5, 6), xy(6, 0), INFINITY
    };

    /** The curve 4093, 0, 16 has as many points as a curve can have: 4094 + 127. */
    private static CurveDesk mostPoints() {
        return desk(4093, 0, 16);
    }

    /** 4093, 0, 2 has as few as one over 4093 can have, 4094 - 127, the greatest of all points among them. */
    private static CurveDesk greatestPoint() {
        return desk(4093, 0, 2);
    }

    /** The greatest p, a and b at once. */
    private static CurveDesk greatestNumbers() {
        return desk(4093, 4092, 4092);
    }

    private static void pointsAre(CurveDesk desk, int[] want) {
        due("count()", desk.count(), want.length);
        for (int k = 0; k < want.length; k++) {
            due("point(" + k + ")", desk.point(k), want[k]);
            due("on(" + want[k] + ")", desk.on(want[k]), true);
        }
    }

    /** All that a desk with the curve 7, 6, 0 tells, so that a refused call that changed something shows. */
    private static void stays760(CurveDesk desk, String after) {
        due("coefficient(0) after " + after, desk.coefficient(0), 7);
        due("coefficient(1) after " + after, desk.coefficient(1), 6);
        due("coefficient(2) after " + after, desk.coefficient(2), 0);
        pointsAre(desk, POINTS_7_6_0);
        due("roots(6) after " + after, desk.roots(6), 1);
        due("roots(3) after " + after, desk.roots(3), 0);
        due("trace(1000) after " + after, desk.trace(1000), 0);
        due("add((4, 2), (5, 1)) after " + after, desk.add(xy(4, 2), xy(5, 1)), xy(6, 0));
        due("times(3, (4, 2)) after " + after, desk.times(3, xy(4, 2)), xy(4, 5));
        due("order((4, 2)) after " + after, desk.order(xy(4, 2)), 4);
        due("division(10, 6) after " + after, desk.division(10, 6), 5);
        due("twist(3) after " + after, desk.twist(3), 8);
    }

    // What it is: at most 512 calls.

    private static void the512thCallIsAnswered() {
        CurveDesk counted = new CurveDesk();
        for (int call = 1; call <= MOST_CALLS; call++) {
            due("call " + call + ", count()", counted.count(), 9);
        }
        CurveDesk changed = new CurveDesk();
        for (int call = 1; call < MOST_CALLS; call += 2) {
            boolean great = call % 4 == 1;
            due("call " + call + ", curve", great ? changed.curve(4093, 0, 16) : changed.curve(5, 2, 0), 0);
            due("call " + (call + 1) + ", count()", changed.count(), great ? 4221 : 2);
        }
        CurveDesk refused = desk(5, 2, 0);
        for (int call = 2; call < MOST_CALLS; call++) {
            due("call " + call + ", curve(4, 1, 1)", refused.curve(4, 1, 1), -1);
        }
        due("call 512, point(1)", refused.point(1), INFINITY);
    }

    private static void noAnswerHangsOnAnotherObject() {
        CurveDesk one = desk(4093, 0, 16);
        CurveDesk other = desk(5, 2, 0);
        due("one: count()", one.count(), 4221);
        due("other: count()", other.count(), 2);
        due("one: division(40, 4092)", one.division(40, 4092), 881);
        due("other: division(40, 4)", other.division(40, 4), 0);
        due("one: point(4219)", one.point(4219), xy(4090, 2500));
        due("other: point(0)", other.point(0), xy(0, 0));
    }

    // Promise 1.

    private static void newObjectHas511() {
        CurveDesk desk = new CurveDesk();
        due("coefficient(0)", desk.coefficient(0), 5);
        due("coefficient(1)", desk.coefficient(1), 1);
        due("coefficient(2)", desk.coefficient(2), 1);
        pointsAre(desk, POINTS_5_1_1);
    }

    private static void newObjectRefusedFirstCallKeeps511() {
        CurveDesk desk = new CurveDesk();
        refuse(desk, 4, 1, 1, -1);
        refuse(desk, 7, 7, 1, -2);
        refuse(desk, 7, 0, 0, -3);
        due("coefficient(0)", desk.coefficient(0), 5);
        pointsAre(desk, POINTS_5_1_1);
    }

    // Promise 2.

    private static void curveTakesLeastP() {
        CurveDesk desk = greatestNumbers();
        take(desk, 5, 1, 1);
        due("coefficient(0)", desk.coefficient(0), 5);
        pointsAre(desk, POINTS_5_1_1);
        take(desk, 7, 1, 1);
        due("coefficient(0)", desk.coefficient(0), 7);
    }

    private static void curveTakesGreatestP() {
        CurveDesk desk = new CurveDesk();
        take(desk, 4091, 1, 1);
        due("coefficient(0)", desk.coefficient(0), 4091);
        take(desk, 4093, 1, 1);
        due("coefficient(0)", desk.coefficient(0), 4093);
    }

    private static void curveRefusesTooSmallP() {
        // 2 and 3 are primes, yet too small.
        for (int p : new int[] {4, 3, 2, 1, 0, -1, -2, -5, -7, -4093, -MAX, MIN}) {
            refuse(new CurveDesk(), p, 0, 0, -1);
            refuse(new CurveDesk(), p, 1, 1, -1);
        }
    }

    private static void curveRefusesTooLargeP() {
        // 4099, 4111, 8191, 65537 and the greatest int are primes, yet too large; 65541 ends in the bits of 5.
        for (int p : new int[] {4094, 4095, 4096, 4097, 4099, 4111, 8191, 65537, 65541, MAX - 1, MAX}) {
            refuse(new CurveDesk(), p, 0, 0, -1);
            refuse(new CurveDesk(), p, 1, 1, -1);
        }
    }

    private static void curveRefusesNoPrime() {
        // Squares of primes, 61 times 67 and its like: the least divisor is as great as it can be.
        for (int p : new int[] {6, 8, 9, 10, 12, 15, 21, 25, 35, 49, 77, 121, 169, 289, 1849, 2209, 2809,
            3127, 3481, 3599, 3721, 3953, 4087, 4089, 4090, 4092}) {
            refuse(new CurveDesk(), p, 1, 1, -1);
        }
    }

    private static void curveTakesLeastAAndB() {
        CurveDesk desk = new CurveDesk();
        take(desk, 5, 0, 1);
        due("coefficient(1)", desk.coefficient(1), 0);
        due("count()", desk.count(), 6);
        take(desk, 5, 2, 0);
        due("coefficient(2)", desk.coefficient(2), 0);
        pointsAre(desk, POINTS_5_2_0);
        take(desk, 4093, 0, 1);
        take(desk, 4093, 1, 0);
    }

    private static void curveTakesGreatestAAndB() {
        CurveDesk desk = new CurveDesk();
        take(desk, 5, 4, 4);
        due("coefficient(1)", desk.coefficient(1), 4);
        due("coefficient(2)", desk.coefficient(2), 4);
        due("count()", desk.count(), 8);
        take(desk, 4093, 4092, 4092);
        due("coefficient(1)", desk.coefficient(1), 4092);
        due("coefficient(2)", desk.coefficient(2), 4092);
        due("count()", desk.count(), 3998);
    }

    private static void curveRefusesTooSmallA() {
        for (int a : new int[] {-1, -2, -4, -5, -7, -MAX, MIN}) {
            refuse(new CurveDesk(), 5, a, 1, -2);
            refuse(new CurveDesk(), 4093, a, 1, -2);
        }
    }

    private static void curveRefusesTooLargeA() {
        for (int a : new int[] {5, 6, 4092, 4093, MAX}) {
            refuse(new CurveDesk(), 5, a, 1, -2);
        }
        for (int a : new int[] {4093, 4094, 4096, 65536, 65537, MAX}) {
            refuse(new CurveDesk(), 4093, a, 1, -2);
        }
    }

    private static void curveRefusesTooSmallB() {
        for (int b : new int[] {-1, -2, -4, -5, -7, -MAX, MIN}) {
            refuse(new CurveDesk(), 5, 1, b, -2);
            refuse(new CurveDesk(), 4093, 1, b, -2);
        }
    }

    private static void curveRefusesTooLargeB() {
        for (int b : new int[] {5, 6, 4092, 4093, MAX}) {
            refuse(new CurveDesk(), 5, 1, b, -2);
        }
        for (int b : new int[] {4093, 4094, 4096, 65536, 65537, MAX}) {
            refuse(new CurveDesk(), 4093, 1, b, -2);
        }
    }

    /** a = -3tt, b = 2ttt are just the pairs for which 4aaa + 27bb is divisible by p. */
    private static void curveRefusesDivisible() {
        refuse(new CurveDesk(), 5, 0, 0, -3);
        for (int p : new int[] {5, 7, 11, 61, 4091, 4093}) {
            CurveDesk desk = null;
            for (int t = 0; t < p; t++) {
                if (t % 500 == 0) {
                    desk = new CurveDesk();
                }
                int tt = t * t % p;
                refuse(desk, p, (p - 3) * tt % p, 2 * tt * t % p, -3);
            }
        }
    }

    private static void curveTakesBesideDivisible() {
        // 4093, 4090, 2 is refused; so is 4090, 4091, since b and p - b have one square.
        refuse(new CurveDesk(), 4093, 4090, 2, -3);
        refuse(new CurveDesk(), 4093, 4090, 4091, -3);
        take(new CurveDesk(), 4093, 4090, 1);
        take(new CurveDesk(), 4093, 4090, 3);
        take(new CurveDesk(), 4093, 4089, 2);
        take(new CurveDesk(), 4093, 4091, 2);
        // Only one of the two summands is divisible by p.
        take(new CurveDesk(), 4093, 0, 4092);
        take(new CurveDesk(), 4093, 4092, 0);
    }

    private static void curveAnswersFirstThatHolds() {
        CurveDesk desk = new CurveDesk();
        // p, then a or b: both hold.
        refuse(desk, 4, -1, 0, -1);
        refuse(desk, 4, 0, 4, -1);
        refuse(desk, 4099, 4099, -1, -1);
        refuse(desk, 0, 0, 0, -1);
        refuse(desk, MIN, MIN, MIN, -1);
        refuse(desk, MAX, MAX, MAX, -1);
        // p, then 4aaa + 27bb.
        refuse(desk, 9, 0, 0, -1);
        refuse(desk, 4097, 0, 0, -1);
        // a or b, then 4aaa + 27bb.
        refuse(desk, 7, 7, 0, -2);
        refuse(desk, 7, 0, 7, -2);
        refuse(desk, 7, -7, -7, -2);
        refuse(desk, 5, -3, 2, -2);
        refuse(desk, 4093, -3, 2, -2);
        refuse(desk, 4093, 4093, 4093, -2);
        pointsAre(desk, POINTS_5_1_1);
    }

    private static void curveRefusedForPStays() {
        CurveDesk desk = desk(7, 6, 0);
        for (int p : new int[] {MIN, -5, 0, 1, 3, 4, 9, 4087, 4094, 4099, MAX}) {
            refuse(desk, p, 1, 1, -1);
            stays760(desk, "curve(" + p + ", 1, 1)");
        }
    }

    private static void curveRefusedForAStays() {
        CurveDesk desk = desk(7, 6, 0);
        for (int a : new int[] {MIN, -1, 11, MAX}) {
            refuse(desk, 11, a, 1, -2);
            stays760(desk, "curve(11, " + a + ", 1)");
        }
    }

    private static void curveRefusedForBStays() {
        CurveDesk desk = desk(7, 6, 0);
        for (int b : new int[] {MIN, -1, 11, MAX}) {
            refuse(desk, 11, 1, b, -2);
            stays760(desk, "curve(11, 1, " + b + ")");
        }
    }

    private static void curveRefusedAsDivisibleStays() {
        CurveDesk desk = desk(7, 6, 0);
        refuse(desk, 5, 0, 0, -3);
        stays760(desk, "curve(5, 0, 0)");
        refuse(desk, 7, 4, 2, -3);
        stays760(desk, "curve(7, 4, 2)");
        refuse(desk, 4093, 4090, 2, -3);
        stays760(desk, "curve(4093, 4090, 2)");
    }

    private static void curveLeavesNothingOfThatBefore() {
        CurveDesk desk = mostPoints();
        due("count()", desk.count(), 4221);
        take(desk, 7, 6, 0);
        stays760(desk, "4093, 0, 16 and 7, 6, 0");
        take(desk, 7, 6, 0);
        stays760(desk, "7, 6, 0 again");
        take(desk, 4093, 0, 16);
        due("count()", desk.count(), 4221);
        due("point(4219)", desk.point(4219), xy(4090, 2500));
        take(desk, 5, 2, 0);
        pointsAre(desk, POINTS_5_2_0);
        due("point(2)", desk.point(2), -2);
        due("roots(5)", desk.roots(5), -1);
        due("on((1, 181))", desk.on(xy(1, 181)), false);
        take(desk, 5, 3, 0);
        pointsAre(desk, POINTS_5_3_0);
    }

    // Promise 3.

    private static void coefficientKnowsThree() {
        CurveDesk desk = greatestNumbers();
        due("coefficient(0)", desk.coefficient(0), 4093);
        due("coefficient(1)", desk.coefficient(1), 4092);
        due("coefficient(2)", desk.coefficient(2), 4092);
    }

    private static void coefficientRefusesOtherK() {
        CurveDesk desk = greatestNumbers();
        for (int k : new int[] {MIN, MIN + 1, -2, -1, 3, 4, 5, 256, 65536, MAX}) {
            due("coefficient(" + k + ")", desk.coefficient(k), -1);
        }
    }

    // Promise 4.

    private static void countOfFewestAndMost() {
        due("5, 2, 0: count()", desk(5, 2, 0).count(), 2);
        due("5, 3, 0: count()", desk(5, 3, 0).count(), 10);
        due("4093, 0, 2: count()", greatestPoint().count(), 3967);
        due("4093, 0, 16: count()", mostPoints().count(), 4221);
    }

    private static void countHoldsPointsWithYZeroOnce() {
        due("5, 1, 0: count()", desk(5, 1, 0).count(), 4);
        due("7, 6, 0: count()", desk(7, 6, 0).count(), 8);
    }

    // Promise 5.

    private static void traceTakesLeastAndGreatestM() {
        // p + 1 - count is 127 and -127.
        due("127: trace(2)", greatestPoint().trace(2), 1);
        due("127: trace(3)", greatestPoint().trace(3), 1);
        due("127: trace(999)", greatestPoint().trace(999), 127);
        due("127: trace(1000)", greatestPoint().trace(1000), 127);
        due("-127: trace(2)", mostPoints().trace(2), 1);
        due("-127: trace(3)", mostPoints().trace(3), 2);
        due("-127: trace(999)", mostPoints().trace(999), 872);
        due("-127: trace(1000)", mostPoints().trace(1000), 873);
    }

    private static void traceRefusesTooSmallM() {
        for (int m : new int[] {1, 0, -1, -2, -5, -1000, -MAX, MIN}) {
            due("trace(" + m + ")", mostPoints().trace(m), -1);
            due("trace(" + m + ")", desk(7, 6, 0).trace(m), -1);
        }
    }

    private static void traceRefusesTooLargeM() {
        for (int m : new int[] {1001, 1002, 4093, 65538, MAX}) {
            due("trace(" + m + ")", mostPoints().trace(m), -1);
            due("trace(" + m + ")", desk(7, 6, 0).trace(m), -1);
        }
    }

    private static void traceOfWhatIsBelowZero() {
        CurveDesk below = mostPoints();
        due("-127: trace(126)", below.trace(126), 125);
        due("-127: trace(127)", below.trace(127), 0);
        due("-127: trace(128)", below.trace(128), 1);
        due("-127: trace(64)", below.trace(64), 1);
        CurveDesk three = new CurveDesk();
        due("-3: trace(2)", three.trace(2), 1);
        due("-3: trace(3)", three.trace(3), 0);
        due("-3: trace(4)", three.trace(4), 1);
        due("-3: trace(1000)", three.trace(1000), 997);
    }

    private static void traceOfWhatIsAboveZero() {
        CurveDesk above = greatestPoint();
        due("127: trace(126)", above.trace(126), 1);
        due("127: trace(127)", above.trace(127), 0);
        due("127: trace(128)", above.trace(128), 127);
        due("127: trace(64)", above.trace(64), 63);
    }

    private static void traceOfZero() {
        for (int m : new int[] {2, 3, 7, 8, 999, 1000}) {
            due("0: trace(" + m + ")", desk(7, 6, 0).trace(m), 0);
        }
    }

    // Promise 6.

    private static void rootsAtLeastX() {
        due("4093, 0, 16: roots(0)", mostPoints().roots(0), 2);
        due("4093, 0, 2: roots(0)", greatestPoint().roots(0), 0);
        due("7, 6, 0: roots(0)", desk(7, 6, 0).roots(0), 1);
    }

    private static void rootsAtGreatestX() {
        due("4093, 0, 2: roots(4092)", greatestPoint().roots(4092), 2);
        due("4093, 0, 16: roots(4092)", mostPoints().roots(4092), 0);
        due("7, 6, 0: roots(6)", desk(7, 6, 0).roots(6), 1);
    }

    private static void rootsRefusesTooSmallX() {
        for (int x : new int[] {-1, -2, -3, -7, -4093, -MAX, MIN}) {
            due("7, 6, 0: roots(" + x + ")", desk(7, 6, 0).roots(x), -1);
            due("4093, 0, 16: roots(" + x + ")", mostPoints().roots(x), -1);
        }
    }

    private static void rootsRefusesTooLargeX() {
        for (int x : new int[] {7, 8, 11, 14, 4092, 4093, 4094, 4096, MAX}) {
            due("7, 6, 0: roots(" + x + ")", desk(7, 6, 0).roots(x), -1);
        }
        for (int x : new int[] {4093, 4094, 4095, 4096, 65536, MAX - 1, MAX}) {
            due("4093, 0, 16: roots(" + x + ")", mostPoints().roots(x), -1);
        }
    }

    // Promise 7.

    private static void pointFirstAndLastButInfinity() {
        due("7, 6, 0: point(0)", desk(7, 6, 0).point(0), xy(0, 0));
        due("7, 6, 0: point(6)", desk(7, 6, 0).point(6), xy(6, 0));
        due("4093, 0, 2: point(0)", greatestPoint().point(0), xy(1, 64));
        due("4093, 0, 2: point(1)", greatestPoint().point(1), xy(1, 4029));
        due("4093, 0, 2: point(3964)", greatestPoint().point(3964), xy(4092, 1));
        due("4093, 0, 2: point(3965)", greatestPoint().point(3965), xy(4092, 4092));
        due("4093, 0, 16: point(4218)", mostPoints().point(4218), xy(4090, 1593));
        due("4093, 0, 16: point(4219)", mostPoints().point(4219), xy(4090, 2500));
    }

    private static void pointLastIsInfinity() {
        due("5, 1, 1: point(8)", desk(5, 1, 1).point(8), INFINITY);
        due("5, 2, 0: point(1)", desk(5, 2, 0).point(1), INFINITY);
        due("5, 3, 0: point(9)", desk(5, 3, 0).point(9), INFINITY);
        due("7, 6, 0: point(7)", desk(7, 6, 0).point(7), INFINITY);
        due("4093, 0, 2: point(3966)", greatestPoint().point(3966), INFINITY);
        due("4093, 0, 16: point(4220)", mostPoints().point(4220), INFINITY);
    }

    private static void pointByXThenY() {
        pointsAre(desk(5, 1, 1), POINTS_5_1_1);
        pointsAre(desk(5, 2, 0), POINTS_5_2_0);
        pointsAre(desk(5, 3, 0), POINTS_5_3_0);
        pointsAre(desk(7, 6, 0), POINTS_7_6_0);
    }

    private static void pointBeyondP() {
        CurveDesk desk = mostPoints();
        due("point(4092)", desk.point(4092), xy(3950, 48));
        due("point(4093)", desk.point(4093), xy(3950, 4045));
        due("point(4094)", desk.point(4094), xy(3954, 527));
        due("point(4095)", desk.point(4095), xy(3954, 3566));
        due("point(4096)", desk.point(4096), xy(3955, 1701));
        due("point(4097)", desk.point(4097), xy(3955, 2392));
    }

    private static void pointRefusesTooSmallK() {
        for (int k : new int[] {-1, -2, -9, -4096, -MAX, MIN}) {
            due("5, 1, 1: point(" + k + ")", desk(5, 1, 1).point(k), -2);
            due("4093, 0, 16: point(" + k + ")", mostPoints().point(k), -2);
        }
    }

    private static void pointRefusesTooLargeK() {
        for (int k : new int[] {2, 3, 4, 5, 4221, MAX}) {
            due("5, 2, 0: point(" + k + ")", desk(5, 2, 0).point(k), -2);
        }
        for (int k : new int[] {9, 10, 4221, MAX}) {
            due("5, 1, 1: point(" + k + ")", desk(5, 1, 1).point(k), -2);
        }
        for (int k : new int[] {3967, 3968, 4093, 4221, MAX}) {
            due("4093, 0, 2: point(" + k + ")", greatestPoint().point(k), -2);
        }
        for (int k : new int[] {4221, 4222, 8192, 65536, MAX - 1, MAX}) {
            due("4093, 0, 16: point(" + k + ")", mostPoints().point(k), -2);
        }
    }

    // Promise 8.

    private static void onInfinity() {
        due("5, 1, 1: on(-1)", desk(5, 1, 1).on(INFINITY), true);
        due("5, 2, 0: on(-1)", desk(5, 2, 0).on(INFINITY), true);
        due("4093, 0, 16: on(-1)", mostPoints().on(INFINITY), true);
    }

    private static void onNoOtherBelowZero() {
        for (int s : new int[] {-2, -3, -5, -4095, -4096, -4097, -8192, MIN, MIN + 1, MIN + 4}) {
            due("5, 1, 1: on(" + s + ")", desk(5, 1, 1).on(s), false);
            due("7, 6, 0: on(" + s + ")", desk(7, 6, 0).on(s), false);
        }
    }

    private static void onLeastPoint() {
        due("7, 6, 0: on(0)", desk(7, 6, 0).on(0), true);
        due("5, 1, 1: on(0)", desk(5, 1, 1).on(0), false);
        due("5, 1, 1: on(1)", desk(5, 1, 1).on(1), true);
        due("4093, 0, 2: on(0)", greatestPoint().on(0), false);
    }

    private static void onGreatestPoint() {
        CurveDesk desk = greatestPoint();
        due("on((4092, 4092))", desk.on(xy(4092, 4092)), true);
        due("on((4092, 1))", desk.on(xy(4092, 1)), true);
        due("on((4092, 4091))", desk.on(xy(4092, 4091)), false);
        due("on((4092, 4093))", desk.on(xy(4092, 4092) + 1), false);
        due("on((4092, 4094))", desk.on(xy(4092, 4094)), false);
        due("on((4092, 4095))", desk.on(xy(4092, 4095)), false);
        due("on((4093, 0))", desk.on(xy(4093, 0)), false);
        due("on((4095, 4095))", desk.on(xy(4095, 4095)), false);
        due("on((4096, 0))", desk.on(xy(4096, 0)), false);
    }

    private static void onYNotBelowP() {
        CurveDesk desk = new CurveDesk();
        // (0, 1) and (4, 3) are points; these y are 1 and 3 modulo 5, too.
        for (int y : new int[] {6, 11, 16, 4086, 4091}) {
            due("on((0, " + y + "))", desk.on(xy(0, y)), false);
        }
        for (int y : new int[] {8, 13, 4088, 4093}) {
            due("on((4, " + y + "))", desk.on(xy(4, y)), false);
        }
        CurveDesk flat = desk(7, 6, 0);
        for (int y : new int[] {7, 14, 4088, 4095}) {
            due("7, 6, 0: on((0, " + y + "))", flat.on(xy(0, y)), false);
        }
    }

    private static void onXNotBelowP() {
        CurveDesk desk = new CurveDesk();
        // x is 0 modulo 5, and (0, 1) is a point.
        for (int x : new int[] {5, 10, 4090, 4095, 4100, 65535, 524285}) {
            due("on((" + x + ", 1))", desk.on(xy(x, 1)), false);
        }
        due("on(MAX)", desk.on(MAX), false);
        CurveDesk great = mostPoints();
        due("4093, 0, 16: on((0, 4))", great.on(xy(0, 4)), true);
        due("4093, 0, 16: on((4093, 4))", great.on(xy(4093, 4)), false);
        due("4093, 0, 16: on((4096, 4))", great.on(xy(4096, 4)), false);
    }

    private static void onSquaresOfY() {
        CurveDesk desk = mostPoints();
        due("on((0, 4))", desk.on(xy(0, 4)), true);
        due("on((0, 4089))", desk.on(xy(0, 4089)), true);
        for (int y : new int[] {0, 1, 3, 5, 4088, 4090, 4092}) {
            due("on((0, " + y + "))", desk.on(xy(0, y)), false);
        }
    }

    // Promise 9.

    private static final int[] NO_POINTS_5_1_1 = {
        MIN, MIN + 1, -4096, -3, -2, 0, 2, 3, 5, 6, xy(1, 1), xy(4, 1), xy(4, 7), xy(5, 1), xy(4096, 1), MAX
    };

    private static void sumWithInfinity() {
        CurveDesk desk = new CurveDesk();
        for (int s : POINTS_5_1_1) {
            due("add(-1, " + s + ")", desk.add(INFINITY, s), s);
            due("add(" + s + ", -1)", desk.add(s, INFINITY), s);
        }
        int greatest = xy(4092, 4092);
        due("add((4092, 4092), -1)", greatestPoint().add(greatest, INFINITY), greatest);
        due("add(-1, (4092, 4092))", greatestPoint().add(INFINITY, greatest), greatest);
    }

    private static void sumWithNegative() {
        CurveDesk desk = new CurveDesk();
        for (int i = 0; i < POINTS_5_1_1.length - 1; i += 2) {
            due("add", desk.add(POINTS_5_1_1[i], POINTS_5_1_1[i + 1]), INFINITY);
            due("add", desk.add(POINTS_5_1_1[i + 1], POINTS_5_1_1[i]), INFINITY);
        }
        due("add((4092, 1), (4092, 4092))", greatestPoint().add(xy(4092, 1), xy(4092, 4092)), INFINITY);
        due("add((0, 4), (0, 4089))", mostPoints().add(xy(0, 4), xy(0, 4089)), INFINITY);
    }

    private static void sumOfYZeroWithItself() {
        CurveDesk desk = desk(7, 6, 0);
        due("add((0, 0), (0, 0))", desk.add(xy(0, 0), xy(0, 0)), INFINITY);
        due("add((1, 0), (1, 0))", desk.add(xy(1, 0), xy(1, 0)), INFINITY);
        due("add((6, 0), (6, 0))", desk.add(xy(6, 0), xy(6, 0)), INFINITY);
        due("5, 2, 0: add((0, 0), (0, 0))", desk(5, 2, 0).add(0, 0), INFINITY);
    }

    private static void sumOfTwoWithYZero() {
        CurveDesk desk = desk(7, 6, 0);
        due("add((0, 0), (1, 0))", desk.add(xy(0, 0), xy(1, 0)), xy(6, 0));
        due("add((1, 0), (0, 0))", desk.add(xy(1, 0), xy(0, 0)), xy(6, 0));
        due("add((6, 0), (1, 0))", desk.add(xy(6, 0), xy(1, 0)), xy(0, 0));
        due("add((0, 0), (6, 0))", desk.add(xy(0, 0), xy(6, 0)), xy(1, 0));
    }

    private static void sumOfSamePoint() {
        due("add((0, 1), (0, 1))", desk(5, 1, 1).add(xy(0, 1), xy(0, 1)), xy(4, 2));
        due("7, 6, 0: add((4, 2), (4, 2))", desk(7, 6, 0).add(xy(4, 2), xy(4, 2)), xy(1, 0));
        // a is 0 and x is 0, so that m is 0.
        due("4093, 0, 16: add((0, 4), (0, 4))", mostPoints().add(xy(0, 4), xy(0, 4)), xy(0, 4089));
        due("add((4092, 4092), (4092, 4092))",
            greatestPoint().add(xy(4092, 4092), xy(4092, 4092)), xy(3074, 2567));
        due("add((4092, 3034), (4092, 3034))",
            greatestNumbers().add(xy(4092, 3034), xy(4092, 3034)), xy(1, 3034));
    }

    private static void sumOfTwoWithOneY() {
        // y2 - y1 is 0, so that m is 0 and the sum has the third x with this y, and its negative.
        due("add((0, 1), (2, 1))", desk(5, 1, 1).add(xy(0, 1), xy(2, 1)), xy(3, 4));
        due("add((0, 1059), (4092, 1059))",
            greatestNumbers().add(xy(0, 1059), xy(4092, 1059)), xy(1, 3034));
    }

    private static void sumWrapsAround() {
        // x2 - x1 and y2 - y1 below 0, and as far apart as they can be.
        due("add((1, 64), (4092, 4092))", greatestPoint().add(xy(1, 64), xy(4092, 4092)), xy(33, 2989));
        due("add((4092, 4092), (1, 64))", greatestPoint().add(xy(4092, 4092), xy(1, 64)), xy(33, 2989));
        due("add((0, 4), (4090, 2500))", mostPoints().add(xy(0, 4), xy(4090, 2500)), xy(510, 2737));
        due("add((4090, 2500), (0, 4))", mostPoints().add(xy(4090, 2500), xy(0, 4)), xy(510, 2737));
        due("add((0, 1059), (4092, 3034))",
            greatestNumbers().add(xy(0, 1059), xy(4092, 3034)), xy(4090, 1202));
    }

    private static void addRefusesNoPointFirst() {
        CurveDesk desk = new CurveDesk();
        for (int s : NO_POINTS_5_1_1) {
            due("add(" + s + ", (0, 1))", desk.add(s, xy(0, 1)), -2);
            due("add(" + s + ", -1)", desk.add(s, INFINITY), -2);
        }
        pointsAre(desk, POINTS_5_1_1);
    }

    private static void addRefusesNoPointSecond() {
        CurveDesk desk = new CurveDesk();
        for (int t : NO_POINTS_5_1_1) {
            due("add((0, 1), " + t + ")", desk.add(xy(0, 1), t), -2);
            due("add(-1, " + t + ")", desk.add(INFINITY, t), -2);
        }
        pointsAre(desk, POINTS_5_1_1);
    }

    private static void addRefusesNoPointTwice() {
        CurveDesk desk = new CurveDesk();
        for (int s : NO_POINTS_5_1_1) {
            due("add(" + s + ", " + s + ")", desk.add(s, s), -2);
            due("add(" + s + ", -2)", desk.add(s, -2), -2);
        }
    }

    private static void addRefusesPointOfCurveBefore() {
        CurveDesk desk = new CurveDesk();
        take(desk, 7, 6, 0);
        due("add((0, 1), (0, 1))", desk.add(xy(0, 1), xy(0, 1)), -2);
        due("add((0, 0), (0, 1))", desk.add(xy(0, 0), xy(0, 1)), -2);
    }

    // Promise 10.

    private static void negativeOfInfinity() {
        due("5, 1, 1: negative(-1)", desk(5, 1, 1).negative(INFINITY), INFINITY);
        due("4093, 0, 16: negative(-1)", mostPoints().negative(INFINITY), INFINITY);
    }

    private static void negativeOfYZero() {
        CurveDesk desk = desk(7, 6, 0);
        due("negative((0, 0))", desk.negative(xy(0, 0)), xy(0, 0));
        due("negative((1, 0))", desk.negative(xy(1, 0)), xy(1, 0));
        due("negative((6, 0))", desk.negative(xy(6, 0)), xy(6, 0));
    }

    private static void negativeOfLeastAndGreatestY() {
        CurveDesk desk = greatestPoint();
        due("negative((4092, 1))", desk.negative(xy(4092, 1)), xy(4092, 4092));
        due("negative((4092, 4092))", desk.negative(xy(4092, 4092)), xy(4092, 1));
        due("5, 1, 1: negative((0, 1))", desk(5, 1, 1).negative(xy(0, 1)), xy(0, 4));
        due("5, 1, 1: negative((0, 4))", desk(5, 1, 1).negative(xy(0, 4)), xy(0, 1));
    }

    private static void negativeRefusesNoPoint() {
        CurveDesk desk = new CurveDesk();
        for (int s : NO_POINTS_5_1_1) {
            due("negative(" + s + ")", desk.negative(s), -2);
        }
        pointsAre(desk, POINTS_5_1_1);
    }

    // Promise 11.

    private static void timesZero() {
        due("times(0, -1)", desk(5, 1, 1).times(0, INFINITY), INFINITY);
        for (int s : POINTS_7_6_0) {
            due("7, 6, 0: times(0, " + s + ")", desk(7, 6, 0).times(0, s), INFINITY);
        }
        due("times(0, (4092, 4092))", greatestPoint().times(0, xy(4092, 4092)), INFINITY);
    }

    private static void timesOne() {
        for (int s : POINTS_7_6_0) {
            due("7, 6, 0: times(1, " + s + ")", desk(7, 6, 0).times(1, s), s);
        }
        due("times(1, (4092, 4092))", greatestPoint().times(1, xy(4092, 4092)), xy(4092, 4092));
    }

    private static void timesMinusOneIsNegative() {
        due("times(-1, (4092, 4092))", greatestPoint().times(-1, xy(4092, 4092)), xy(4092, 1));
        due("7, 6, 0: times(-1, (6, 0))", desk(7, 6, 0).times(-1, xy(6, 0)), xy(6, 0));
        due("times(-1, -1)", desk(7, 6, 0).times(-1, INFINITY), INFINITY);
    }

    private static void timesBelowZero() {
        CurveDesk desk = new CurveDesk();
        due("times(-2, (0, 1))", desk.times(-2, xy(0, 1)), xy(4, 3));
        due("times(-3, (0, 1))", desk.times(-3, xy(0, 1)), xy(2, 4));
        due("times(-8, (0, 1))", desk.times(-8, xy(0, 1)), xy(0, 1));
        due("times(-9, (0, 1))", desk.times(-9, xy(0, 1)), INFINITY);
        due("times(-10, (0, 1))", desk.times(-10, xy(0, 1)), xy(0, 4));
    }

    private static void timesAroundTheOrder() {
        CurveDesk desk = greatestPoint();
        int s = xy(1, 64);
        due("times(3966, s)", desk.times(3966, s), xy(1, 4029));
        due("times(3967, s)", desk.times(3967, s), INFINITY);
        due("times(3968, s)", desk.times(3968, s), xy(1, 64));
        due("times(-3966, s)", desk.times(-3966, s), xy(1, 64));
        due("times(-3967, s)", desk.times(-3967, s), INFINITY);
        due("times(-3968, s)", desk.times(-3968, s), xy(1, 4029));
        due("times(4093, s)", desk.times(4093, s), xy(1716, 2684));
        due("times(4096, s)", desk.times(4096, s), xy(1528, 3682));
    }

    private static void timesGreatestInt() {
        due("times(MAX, (0, 1))", desk(5, 1, 1).times(MAX, xy(0, 1)), xy(0, 1));
        due("times(MAX, (1, 64))", greatestPoint().times(MAX, xy(1, 64)), xy(4038, 391));
        due("times(MAX, (4090, 2500))", mostPoints().times(MAX, xy(4090, 2500)), xy(3785, 3723));
        due("times(MAX, (0, 1059))", greatestNumbers().times(MAX, xy(0, 1059)), xy(2424, 2178));
        due("times(MAX, (1, 0))", desk(7, 6, 0).times(MAX, xy(1, 0)), xy(1, 0));
        due("times(MAX, -1)", mostPoints().times(MAX, INFINITY), INFINITY);
    }

    private static void timesLeastInt() {
        due("times(MIN, (0, 1))", desk(5, 1, 1).times(MIN, xy(0, 1)), xy(4, 3));
        due("times(MIN, (1, 64))", greatestPoint().times(MIN, xy(1, 64)), xy(1251, 220));
        due("times(MIN, (4090, 2500))", mostPoints().times(MIN, xy(4090, 2500)), xy(2242, 2422));
        due("times(MIN, (0, 1059))", greatestNumbers().times(MIN, xy(0, 1059)), xy(2406, 1653));
        due("times(MIN, (1, 0))", desk(7, 6, 0).times(MIN, xy(1, 0)), INFINITY);
        due("times(MIN, -1)", mostPoints().times(MIN, INFINITY), INFINITY);
        due("times(MIN + 1, (1, 64))", greatestPoint().times(MIN + 1, xy(1, 64)), xy(4038, 3702));
        due("times(MIN + 1, (1, 0))", desk(7, 6, 0).times(MIN + 1, xy(1, 0)), xy(1, 0));
    }

    private static void timesOfYZero() {
        CurveDesk desk = desk(7, 6, 0);
        for (int k = -4; k <= 4; k++) {
            due("times(" + k + ", (6, 0))", desk.times(k, xy(6, 0)), k % 2 == 0 ? INFINITY : xy(6, 0));
        }
    }

    private static void timesRefusesNoPoint() {
        for (int k : new int[] {MIN, -2, -1, 0, 1, 2, 9, MAX}) {
            CurveDesk desk = new CurveDesk();
            for (int s : NO_POINTS_5_1_1) {
                due("times(" + k + ", " + s + ")", desk.times(k, s), -2);
            }
            pointsAre(desk, POINTS_5_1_1);
        }
    }

    // Promise 12.

    private static void orderOfInfinity() {
        due("5, 1, 1: order(-1)", desk(5, 1, 1).order(INFINITY), 1);
        due("5, 2, 0: order(-1)", desk(5, 2, 0).order(INFINITY), 1);
        due("4093, 0, 16: order(-1)", mostPoints().order(INFINITY), 1);
    }

    private static void orderOfYZero() {
        for (int s : new int[] {xy(0, 0), xy(1, 0), xy(6, 0)}) {
            due("7, 6, 0: order(" + s + ")", desk(7, 6, 0).order(s), 2);
        }
        // Here 2 is the count, too.
        due("5, 2, 0: order((0, 0))", desk(5, 2, 0).order(xy(0, 0)), 2);
    }

    private static void orderThatIsTheCount() {
        due("5, 1, 1: order((0, 1))", desk(5, 1, 1).order(xy(0, 1)), 9);
        due("5, 3, 0: order((2, 2))", desk(5, 3, 0).order(xy(2, 2)), 10);
        due("4093, 0, 2: order((4092, 4092))", greatestPoint().order(xy(4092, 4092)), 3967);
        due("4093, 4092, 4092: order((0, 1059))", greatestNumbers().order(xy(0, 1059)), 3998);
    }

    private static void orderThatIsLess() {
        due("5, 1, 1: order((2, 1))", desk(5, 1, 1).order(xy(2, 1)), 3);
        due("5, 3, 0: order((1, 2))", desk(5, 3, 0).order(xy(1, 2)), 5);
        due("7, 6, 0: order((4, 2))", desk(7, 6, 0).order(xy(4, 2)), 4);
        due("4093, 4092, 4092: order((1, 1059))", greatestNumbers().order(xy(1, 1059)), 1999);
        CurveDesk most = mostPoints();
        due("4093, 0, 16: order((0, 4))", most.order(xy(0, 4)), 3);
        due("4093, 0, 16: order((4064, 964))", most.order(xy(4064, 964)), 21);
        due("4093, 0, 16: order((4043, 1548))", most.order(xy(4043, 1548)), 67);
        due("4093, 0, 16: order((7, 1611))", most.order(xy(7, 1611)), 201);
        due("4093, 0, 16: order((4090, 2500))", most.order(xy(4090, 2500)), 469);
        due("4093, 0, 16: order((1, 181))", most.order(xy(1, 181)), 1407);
    }

    private static void orderRefusesNoPoint() {
        CurveDesk desk = new CurveDesk();
        for (int s : NO_POINTS_5_1_1) {
            due("order(" + s + ")", desk.order(s), -2);
        }
        pointsAre(desk, POINTS_5_1_1);
    }

    // Promise 13.

    private static void divisionAre(CurveDesk desk, int x, int[] want) {
        // From the greatest n down, so that no value of a call before can help.
        for (int n = want.length - 1; n >= 0; n--) {
            due("division(" + n + ", " + x + ")", desk.division(n, x), want[n]);
        }
    }

    private static void divisionAtLeastX() {
        divisionAre(desk(5, 1, 1), 0, new int[] {
            0, 1, 1, 4, 2, 3, 1, 4, 4, 0, 1, 1, 4, 2, 3, 1, 4, 4, 0, 1, 1,
            4, 2, 3, 1, 4, 4, 0, 1, 1, 4, 2, 3, 1, 4, 4, 0, 1, 1, 4, 2});
        divisionAre(greatestNumbers(), 0, new int[] {
            0, 1, 1, 4092, 4079, 3870, 419, 3197, 2716, 629, 4079, 443, 713, 3162, 164, 664, 204, 2152,
            2378, 2292, 776, 3669, 3762, 3907, 2706, 163, 3257, 523, 3386, 3197, 2768, 2286, 686, 1281,
            1710, 146, 1540, 3890, 2102, 1603, 598});
    }

    private static void divisionAtGreatestX() {
        divisionAre(desk(5, 1, 1), 4, new int[] {
            0, 1, 1, 1, 2, 1, 2, 3, 2, 0, 3, 2, 3, 4, 3, 4, 4, 4, 0, 1, 1,
            1, 2, 1, 2, 3, 2, 0, 3, 2, 3, 4, 3, 4, 4, 4, 0, 1, 1, 1, 2});
        divisionAre(greatestNumbers(), 4092, new int[] {
            0, 1, 1, 8, 16, 3837, 4090, 3949, 253, 4021, 786, 22, 1134, 2084, 2269, 1038, 3363, 1161,
            218, 1267, 2795, 2384, 55, 2679, 1285, 83, 961, 3804, 1510, 311, 496, 3842, 1201, 2165,
            1741, 1300, 3862, 2130, 1176, 1393, 3423});
        divisionAre(mostPoints(), 4092, new int[] {
            0, 1, 1, 3904, 3452, 2764, 1528, 2973, 3604, 3469, 1788, 1634, 2442, 744, 2087, 2151, 1754,
            2116, 248, 948, 355, 3889, 1372, 706, 3488, 2401, 1351, 3141, 1260, 3480, 1976, 3903, 3215,
            1988, 1053, 1950, 2802, 2159, 987, 2183, 881});
    }

    private static void divisionWhereQIsZero() {
        // The x of points with y 0.
        divisionAre(desk(7, 6, 0), 0, new int[] {
            0, 1, 1, 6, 2, 1, 3, 6, 4, 1, 5, 6, 6, 1, 0, 6, 1, 1, 2, 6, 3,
            1, 4, 6, 5, 1, 6, 6, 0, 1, 1, 6, 2, 1, 3, 6, 4, 1, 5, 6, 6});
        divisionAre(desk(7, 6, 0), 6, new int[] {
            0, 1, 1, 3, 5, 1, 5, 6, 3, 4, 5, 6, 4, 1, 0, 3, 6, 1, 1, 6, 4,
            4, 4, 6, 1, 1, 6, 3, 0, 1, 4, 6, 5, 4, 3, 6, 5, 1, 5, 3, 1});
    }

    private static void divisionAtXWithoutPoint() {
        // 7, 6, 0 has no point with x 2 or 3.
        divisionAre(desk(7, 6, 0), 2, new int[] {
            0, 1, 1, 2, 0, 6, 5, 6, 0, 2, 1, 1, 0, 6, 6, 5, 0, 1, 2, 1, 0,
            5, 6, 6, 0, 1, 1, 2, 0, 6, 5, 6, 0, 2, 1, 1, 0, 6, 6, 5, 0});
        divisionAre(desk(7, 6, 0), 3, new int[] {
            0, 1, 1, 6, 0, 1, 6, 6, 0, 1, 1, 6, 0, 1, 6, 6, 0, 1, 1, 6, 0,
            1, 6, 6, 0, 1, 1, 6, 0, 1, 6, 6, 0, 1, 1, 6, 0, 1, 6, 6, 0});
    }

    private static void divisionFirstValues() {
        for (int x = 0; x < 7; x++) {
            due("division(0, " + x + ")", desk(7, 3, 2).division(0, x), 0);
            due("division(1, " + x + ")", desk(7, 3, 2).division(1, x), 1);
            due("division(2, " + x + ")", desk(7, 3, 2).division(2, x), 1);
        }
        // f3 is -aa at x 0, and f4 is 2 (-8bb - aaa): both below 0 before they are numbers.
        due("division(3, 0)", desk(7, 3, 2).division(3, 0), 5);
        due("division(4, 0)", desk(7, 3, 2).division(4, 0), 1);
        due("division(3, 0)", greatestNumbers().division(3, 0), 4092);
        due("division(4, 0)", greatestNumbers().division(4, 0), 4079);
    }

    private static void divisionFirstOfEachFormula() {
        CurveDesk desk = desk(7, 3, 2);
        // n = 5: m is 2, even; n = 6: m is 3; n = 7: m is 3, odd; n = 8: m is 4.
        due("division(5, 6)", desk.division(5, 6), 1);
        due("division(6, 6)", desk.division(6, 6), 1);
        due("division(7, 6)", desk.division(7, 6), 0);
        due("division(8, 6)", desk.division(8, 6), 6);
        due("division(5, 0)", desk.division(5, 0), 2);
        due("division(6, 0)", desk.division(6, 0), 5);
        due("division(7, 0)", desk.division(7, 0), 4);
        due("division(8, 0)", desk.division(8, 0), 2);
    }

    private static void divisionTakesGreatestN() {
        due("division(39, 4092)", greatestNumbers().division(39, 4092), 1393);
        due("division(40, 4092)", greatestNumbers().division(40, 4092), 3423);
        due("division(40, 0)", greatestPoint().division(40, 0), 1938);
        due("division(40, 0)", desk(5, 2, 0).division(40, 0), 0);
    }

    private static void divisionRefusesTooSmallN() {
        for (int n : new int[] {-1, -2, -5, -40, -MAX, MIN}) {
            due("division(" + n + ", 0)", desk(5, 1, 1).division(n, 0), -1);
            due("division(" + n + ", 4092)", greatestNumbers().division(n, 4092), -1);
        }
    }

    private static void divisionRefusesTooLargeN() {
        for (int n : new int[] {41, 42, 80, 4093, 65536, MAX}) {
            due("division(" + n + ", 0)", desk(5, 1, 1).division(n, 0), -1);
            due("division(" + n + ", 4092)", greatestNumbers().division(n, 4092), -1);
        }
    }

    private static void divisionRefusesTooSmallX() {
        for (int x : new int[] {-1, -2, -5, -4093, -MAX, MIN}) {
            for (int n : new int[] {0, 1, 2, 3, 40}) {
                due("division(" + n + ", " + x + ")", desk(5, 1, 1).division(n, x), -1);
                due("division(" + n + ", " + x + ")", greatestNumbers().division(n, x), -1);
            }
        }
    }

    private static void divisionRefusesTooLargeX() {
        for (int n : new int[] {0, 1, 2, 3, 40}) {
            for (int x : new int[] {5, 6, 10, 4092, 4093, MAX}) {
                due("division(" + n + ", " + x + ")", desk(5, 1, 1).division(n, x), -1);
            }
            for (int x : new int[] {4093, 4094, 4096, 65536, MAX}) {
                due("division(" + n + ", " + x + ")", greatestNumbers().division(n, x), -1);
            }
        }
    }

    private static void divisionRefusesBoth() {
        CurveDesk desk = new CurveDesk();
        due("division(-1, -1)", desk.division(-1, -1), -1);
        due("division(41, 5)", desk.division(41, 5), -1);
        due("division(MIN, MAX)", desk.division(MIN, MAX), -1);
        due("division(MAX, MIN)", desk.division(MAX, MIN), -1);
        due("division(40, 4)", desk.division(40, 4), 2);
    }

    // Promise 14.

    private static void twistByLeastG() {
        due("5, 1, 1: twist(1)", desk(5, 1, 1).twist(1), 9);
        due("5, 2, 0: twist(1)", desk(5, 2, 0).twist(1), 2);
        due("4093, 0, 16: twist(1)", mostPoints().twist(1), 4221);
    }

    private static void twistByGreatestG() {
        // -1 is a square modulo 5, 13 and 4093, and none modulo 7 and 11.
        due("5, 1, 1: twist(4)", desk(5, 1, 1).twist(4), 9);
        due("13, 0, 2: twist(12)", desk(13, 0, 2).twist(12), 19);
        due("4093, 0, 16: twist(4092)", mostPoints().twist(4092), 4221);
        due("7, 3, 2: twist(6)", desk(7, 3, 2).twist(6), 7);
        due("11, 1, 6: twist(10)", desk(11, 1, 6).twist(10), 11);
    }

    private static void twistBetweenFewestAndMost() {
        due("5, 2, 0: twist(2)", desk(5, 2, 0).twist(2), 10);
        due("5, 3, 0: twist(2)", desk(5, 3, 0).twist(2), 2);
        due("4093, 0, 16: twist(2)", mostPoints().twist(2), 3967);
        due("4093, 0, 2: twist(2)", greatestPoint().twist(2), 4221);
        due("4093, 0, 2: twist(4091)", greatestPoint().twist(4091), 4221);
        due("4093, 4092, 4092: twist(4091)", greatestNumbers().twist(4091), 4190);
    }

    private static void twistByEveryG() {
        int[] by7 = {9, 9, 7, 9, 7, 7};
        for (int g = 1; g <= by7.length; g++) {
            due("7, 3, 2: twist(" + g + ")", desk(7, 3, 2).twist(g), by7[g - 1]);
        }
        int[] by13 = {19, 9, 19, 19, 9, 9, 9, 9, 19, 19, 9, 19};
        for (int g = 1; g <= by13.length; g++) {
            due("13, 0, 2: twist(" + g + ")", desk(13, 0, 2).twist(g), by13[g - 1]);
        }
    }

    private static void twistRefusesTooSmallG() {
        for (int g : new int[] {0, -1, -2, -4, -4092, -MAX, MIN}) {
            due("5, 1, 1: twist(" + g + ")", desk(5, 1, 1).twist(g), -1);
            due("4093, 0, 16: twist(" + g + ")", mostPoints().twist(g), -1);
        }
    }

    private static void twistRefusesTooLargeG() {
        for (int g : new int[] {5, 6, 9, 4092, 4093, MAX}) {
            due("5, 1, 1: twist(" + g + ")", desk(5, 1, 1).twist(g), -1);
        }
        for (int g : new int[] {4093, 4094, 4096, 65537, MAX}) {
            due("4093, 0, 16: twist(" + g + ")", mostPoints().twist(g), -1);
        }
    }

    private static void twistLeavesThePresentCurve() {
        CurveDesk desk = desk(7, 6, 0);
        for (int g : new int[] {1, 2, 3, 4, 5, 6, 0, 7, -1, MIN, MAX}) {
            desk.twist(g);
            stays760(desk, "twist(" + g + ")");
        }
    }

    // No call but curve changes anything, an answered one as little as a refused one.

    private static void onlyCurveChanges() {
        CurveDesk desk = desk(7, 6, 0);
        for (int v : new int[] {MIN, -2, -1, 0, 1, 3, 6, 7, xy(4, 2), MAX}) {
            desk.coefficient(v);
            desk.trace(v);
            desk.roots(v);
            desk.point(v);
            desk.on(v);
            desk.add(v, v);
            desk.negative(v);
            desk.times(v, v);
            desk.order(v);
            desk.division(v, v);
            stays760(desk, "the calls with " + v);
        }
    }

    private static void newObjectAndCurve() {
        test("at most 512 calls", BoundariesTest::the512thCallIsAnswered);
        test("one object and another", BoundariesTest::noAnswerHangsOnAnotherObject);
        test("1: a new object", BoundariesTest::newObjectHas511);
        test("1: a new object, refused calls", BoundariesTest::newObjectRefusedFirstCallKeeps511);
        test("2: the least p", BoundariesTest::curveTakesLeastP);
        test("2: the greatest p", BoundariesTest::curveTakesGreatestP);
        test("2: p too small", BoundariesTest::curveRefusesTooSmallP);
        test("2: p too large", BoundariesTest::curveRefusesTooLargeP);
        test("2: p no prime", BoundariesTest::curveRefusesNoPrime);
        test("2: the least a, b", BoundariesTest::curveTakesLeastAAndB);
        test("2: the greatest a, b", BoundariesTest::curveTakesGreatestAAndB);
        test("2: a too small", BoundariesTest::curveRefusesTooSmallA);
        test("2: a too large", BoundariesTest::curveRefusesTooLargeA);
        test("2: b too small", BoundariesTest::curveRefusesTooSmallB);
        test("2: b too large", BoundariesTest::curveRefusesTooLargeB);
        test("2: 4aaa + 27bb divisible", BoundariesTest::curveRefusesDivisible);
        test("2: 4aaa + 27bb just not divisible", BoundariesTest::curveTakesBesideDivisible);
        test("2: the first that holds", BoundariesTest::curveAnswersFirstThatHolds);
        test("2: stays after -1", BoundariesTest::curveRefusedForPStays);
        test("2: stays after -2 for a", BoundariesTest::curveRefusedForAStays);
        test("2: stays after -2 for b", BoundariesTest::curveRefusedForBStays);
        test("2: stays after -3", BoundariesTest::curveRefusedAsDivisibleStays);
        test("2: becomes, nothing stays of the one before", BoundariesTest::curveLeavesNothingOfThatBefore);
        test("only curve changes", BoundariesTest::onlyCurveChanges);
    }

    private static void whatACurveIs() {
        test("3: k 0, 1, 2", BoundariesTest::coefficientKnowsThree);
        test("3: other k", BoundariesTest::coefficientRefusesOtherK);
        test("4: the fewest and the most points", BoundariesTest::countOfFewestAndMost);
        test("4: points with y 0", BoundariesTest::countHoldsPointsWithYZeroOnce);
        test("5: m 2 and 1000", BoundariesTest::traceTakesLeastAndGreatestM);
        test("5: m too small", BoundariesTest::traceRefusesTooSmallM);
        test("5: m too large", BoundariesTest::traceRefusesTooLargeM);
        test("5: below 0", BoundariesTest::traceOfWhatIsBelowZero);
        test("5: above 0", BoundariesTest::traceOfWhatIsAboveZero);
        test("5: 0", BoundariesTest::traceOfZero);
        test("6: x 0", BoundariesTest::rootsAtLeastX);
        test("6: x p - 1", BoundariesTest::rootsAtGreatestX);
        test("6: x too small", BoundariesTest::rootsRefusesTooSmallX);
        test("6: x too large", BoundariesTest::rootsRefusesTooLargeX);
        test("7: k 0 and count - 2", BoundariesTest::pointFirstAndLastButInfinity);
        test("7: infinity last", BoundariesTest::pointLastIsInfinity);
        test("7: by x, then by y", BoundariesTest::pointByXThenY);
        test("7: k from p on", BoundariesTest::pointBeyondP);
        test("7: k too small", BoundariesTest::pointRefusesTooSmallK);
        test("7: k too large", BoundariesTest::pointRefusesTooLargeK);
        test("8: infinity", BoundariesTest::onInfinity);
        test("8: no other int below 0", BoundariesTest::onNoOtherBelowZero);
        test("8: the least point", BoundariesTest::onLeastPoint);
        test("8: the greatest point", BoundariesTest::onGreatestPoint);
        test("8: y not below p", BoundariesTest::onYNotBelowP);
        test("8: x not below p", BoundariesTest::onXNotBelowP);
        test("8: yy is not xxx + ax + b", BoundariesTest::onSquaresOfY);
    }

    private static void sumsAndMultiples() {
        test("9: infinity and s", BoundariesTest::sumWithInfinity);
        test("9: (x, y) and (x, p - y)", BoundariesTest::sumWithNegative);
        test("9: (x, 0) and itself", BoundariesTest::sumOfYZeroWithItself);
        test("9: (x, 0) and another (x, 0)", BoundariesTest::sumOfTwoWithYZero);
        test("9: the points are the same", BoundariesTest::sumOfSamePoint);
        test("9: x1 is not x2, y1 is y2", BoundariesTest::sumOfTwoWithOneY);
        test("9: differences below 0", BoundariesTest::sumWrapsAround);
        test("9: s no point", BoundariesTest::addRefusesNoPointFirst);
        test("9: t no point", BoundariesTest::addRefusesNoPointSecond);
        test("9: both no points", BoundariesTest::addRefusesNoPointTwice);
        test("9: a point of the curve before", BoundariesTest::addRefusesPointOfCurveBefore);
        test("10: infinity", BoundariesTest::negativeOfInfinity);
        test("10: (x, 0)", BoundariesTest::negativeOfYZero);
        test("10: y 1 and p - 1", BoundariesTest::negativeOfLeastAndGreatestY);
        test("10: no point", BoundariesTest::negativeRefusesNoPoint);
        test("11: k 0", BoundariesTest::timesZero);
        test("11: k 1", BoundariesTest::timesOne);
        test("11: k -1", BoundariesTest::timesMinusOneIsNegative);
        test("11: k below 0", BoundariesTest::timesBelowZero);
        test("11: k around the order", BoundariesTest::timesAroundTheOrder);
        test("11: the greatest k", BoundariesTest::timesGreatestInt);
        test("11: the least k", BoundariesTest::timesLeastInt);
        test("11: (x, 0)", BoundariesTest::timesOfYZero);
        test("11: no point", BoundariesTest::timesRefusesNoPoint);
        test("12: infinity", BoundariesTest::orderOfInfinity);
        test("12: (x, 0)", BoundariesTest::orderOfYZero);
        test("12: the count", BoundariesTest::orderThatIsTheCount);
        test("12: less than the count", BoundariesTest::orderThatIsLess);
        test("12: no point", BoundariesTest::orderRefusesNoPoint);
    }

    private static void divisionValuesAndTwists() {
        test("13: x 0", BoundariesTest::divisionAtLeastX);
        test("13: x p - 1", BoundariesTest::divisionAtGreatestX);
        test("13: q 0", BoundariesTest::divisionWhereQIsZero);
        test("13: x without a point", BoundariesTest::divisionAtXWithoutPoint);
        test("13: f0 .. f4", BoundariesTest::divisionFirstValues);
        test("13: the least m of each formula", BoundariesTest::divisionFirstOfEachFormula);
        test("13: n 40", BoundariesTest::divisionTakesGreatestN);
        test("13: n too small", BoundariesTest::divisionRefusesTooSmallN);
        test("13: n too large", BoundariesTest::divisionRefusesTooLargeN);
        test("13: x too small", BoundariesTest::divisionRefusesTooSmallX);
        test("13: x too large", BoundariesTest::divisionRefusesTooLargeX);
        test("13: n and x wrong", BoundariesTest::divisionRefusesBoth);
        test("14: g 1", BoundariesTest::twistByLeastG);
        test("14: g p - 1", BoundariesTest::twistByGreatestG);
        test("14: the fewest and the most points", BoundariesTest::twistBetweenFewestAndMost);
        test("14: every g", BoundariesTest::twistByEveryG);
        test("14: g too small", BoundariesTest::twistRefusesTooSmallG);
        test("14: g too large", BoundariesTest::twistRefusesTooLargeG);
        test("14: the present curve stays", BoundariesTest::twistLeavesThePresentCurve);
    }

    public static void main(String[] args) {
        newObjectAndCurve();
        whatACurveIs();
        sumsAndMultiples();
        divisionValuesAndTwists();
        System.out.println(sentences + " boundary cases, " + wrong + " answers not as due");
        if (wrong != 0) {
            System.exit(1);
        }
    }
}
