/** Each promise by written-out answers: ordinary inputs, edges and wrong inputs. */
public final class PromisesTest {
    private static final int MIN = Integer.MIN_VALUE;
    private static final int MAX = Integer.MAX_VALUE;
    private static final int INFINITY = -1;

    private static int wrong = 0;

    private static void due(String call, long got, long want) {
        if (got != want) {
            wrong++;
            System.out.println(call + " answered " + got + ", due is " + want);
        }
    }

    private static void due(String call, boolean got, boolean want) {
        due(call, got ? 1 : 0, want ? 1 : 0);
    }

    private static int xy(int x, int y) {
        return 4096 * x + y;
    }

    private static CurveDesk desk(int p, int a, int b) {
        CurveDesk desk = new CurveDesk();
        due("curve(" + p + ", " + a + ", " + b + ")", desk.curve(p, a, b), 0);
        return desk;
    }

    private static void presentIs(CurveDesk desk, String when, int p, int a, int b, int count) {
        due(when + ": coefficient(0)", desk.coefficient(0), p);
        due(when + ": coefficient(1)", desk.coefficient(1), a);
        due(when + ": coefficient(2)", desk.coefficient(2), b);
        due(when + ": count()", desk.count(), count);
    }

    /** y² = x³ + x + 1 modulo 5: all of its points, in their order. */
    private static final int[] POINTS_5_1_1 = {
        xy(0, 1), xy(0, 4), xy(2, 1), xy(2, 4), xy(3, 1), xy(3, 4), xy(4, 2), xy(4, 3), INFINITY
    };

    /** y² = x³ - x modulo 7: three points with y 0. */
    private static final int[] POINTS_7_6_0 = {
        xy(0, 0), xy(1, 0), xy(4, 2), xy(4, 5), xy(5, 1), xy(5, 6), xy(6, 0), INFINITY
    };

    private static void promise1NewObject() {
        presentIs(new CurveDesk(), "new", 5, 1, 1, 9);
        due("new: point(0)", new CurveDesk().point(0), xy(0, 1));
    }

    private static void promise2Curve() {
        CurveDesk desk = desk(7, 6, 0);
        int[] noPrimes = {MIN, -7, -1, 0, 1, 2, 3, 4, 6, 8, 9, 25, 49, 121, 3481, 3721, 4087, 4089,
            4092, 4094, 4095, 4096, 4097, 4099, 65537, MAX};
        for (int p : noPrimes) {
            due("curve(" + p + ", 1, 1)", desk.curve(p, 1, 1), -1);
            due("curve(" + p + ", -1, -1)", desk.curve(p, -1, -1), -1);
            due("curve(" + p + ", 0, 0)", desk.curve(p, 0, 0), -1);
        }
        int[] noNumbers = {MIN, -1, 11, 12, MAX};
        for (int v : noNumbers) {
            due("curve(11, " + v + ", 0)", desk.curve(11, v, 0), -2);
            due("curve(11, 0, " + v + ")", desk.curve(11, 0, v), -2);
            due("curve(11, 1, " + v + ")", desk.curve(11, 1, v), -2);
        }
        due("curve(11, 0, 0)", desk.curve(11, 0, 0), -3);
        due("curve(5, 2, 2)", desk.curve(5, 2, 2), -3);
        due("curve(5, 2, 3)", desk.curve(5, 2, 3), -3);
        // -3 and 2: x³ - 3x + 2 = (x - 1)²(x + 2) over every field.
        due("curve(4093, 4090, 2)", desk.curve(4093, 4090, 2), -3);
        due("curve(4091, 4088, 4089)", desk.curve(4091, 4088, 4089), -3);
        presentIs(desk, "after refusals", 7, 6, 0, 8);
        due("after refusals: point(2)", desk.point(2), xy(4, 2));
        due("curve(5, 1, 1)", desk.curve(5, 1, 1), 0);
        presentIs(desk, "after curve(5, 1, 1)", 5, 1, 1, 9);
        due("curve(4093, 0, 1)", desk.curve(4093, 0, 1), 0);
        due("curve(4093, 4092, 4092)", desk.curve(4093, 4092, 4092), 0);
        due("coefficient(2)", desk.coefficient(2), 4092);
        due("curve(5, 0, 1)", desk.curve(5, 0, 1), 0);
        presentIs(desk, "after curve(5, 0, 1)", 5, 0, 1, 6);
    }

    private static void promise3Coefficient() {
        CurveDesk desk = desk(23, 4, 7);
        due("coefficient(0)", desk.coefficient(0), 23);
        due("coefficient(1)", desk.coefficient(1), 4);
        due("coefficient(2)", desk.coefficient(2), 7);
        for (int k : new int[] {MIN, -1, 3, 4, MAX}) {
            due("coefficient(" + k + ")", desk.coefficient(k), -1);
        }
    }

    private static void promise4Count() {
        due("5, 1, 1: count()", desk(5, 1, 1).count(), 9);
        due("7, 6, 0: count()", desk(7, 6, 0).count(), 8);
        due("23, 1, 1: count()", desk(23, 1, 1).count(), 28);
        // 4091 is 2 modulo 3, so every number has one cube root; it is 3 modulo 4 as well.
        due("4091, 0, 1: count()", desk(4091, 0, 1).count(), 4092);
        due("4091, 1, 0: count()", desk(4091, 1, 0).count(), 4092);
    }

    private static void promise5Trace() {
        CurveDesk below = desk(5, 1, 1);
        due("-3: trace(2)", below.trace(2), 1);
        due("-3: trace(3)", below.trace(3), 0);
        due("-3: trace(4)", below.trace(4), 1);
        due("-3: trace(1000)", below.trace(1000), 997);
        CurveDesk zero = desk(7, 6, 0);
        due("0: trace(2)", zero.trace(2), 0);
        due("0: trace(1000)", zero.trace(1000), 0);
        CurveDesk above = desk(4093, 2, 3);
        due("70: trace(2)", above.trace(2), 0);
        due("70: trace(69)", above.trace(69), 1);
        due("70: trace(71)", above.trace(71), 70);
        due("70: trace(1000)", above.trace(1000), 70);
        for (int m : new int[] {MIN, -2, -1, 0, 1, 1001, MAX}) {
            due("trace(" + m + ")", below.trace(m), -1);
        }
    }

    private static void promise6Roots() {
        CurveDesk desk = desk(7, 6, 0);
        int[] want = {1, 1, 0, 0, 2, 2, 1};
        for (int x = 0; x < want.length; x++) {
            due("roots(" + x + ")", desk.roots(x), want[x]);
        }
        for (int x : new int[] {MIN, -1, 7, 8, 4093, 4094, MAX}) {
            due("roots(" + x + ")", desk.roots(x), -1);
        }
    }

    private static void promise7Point() {
        pointsAre(desk(5, 1, 1), POINTS_5_1_1);
        pointsAre(desk(7, 6, 0), POINTS_7_6_0);
        CurveDesk shrunk = desk(4093, 2, 3);
        due("curve(5, 1, 1)", shrunk.curve(5, 1, 1), 0);
        pointsAre(shrunk, POINTS_5_1_1);
    }

    private static void pointsAre(CurveDesk desk, int[] want) {
        due("count()", desk.count(), want.length);
        for (int k = 0; k < want.length; k++) {
            due("point(" + k + ")", desk.point(k), want[k]);
        }
        for (int k : new int[] {MIN, -2, -1, want.length, want.length + 1, 4093, 5000, MAX}) {
            due("point(" + k + ")", desk.point(k), -2);
        }
    }

    private static boolean holds(int[] row, int s) {
        for (int each : row) {
            if (each == s) {
                return true;
            }
        }
        return false;
    }

    private static void promise8On() {
        CurveDesk five = null;
        CurveDesk seven = null;
        for (int s = -70000; s < 70000; s++) {
            if (s % 500 == 0) {
                // The document promises 512 calls of one object.
                five = desk(5, 1, 1);
                seven = desk(7, 6, 0);
            }
            due("5, 1, 1: on(" + s + ")", five.on(s), holds(POINTS_5_1_1, s));
            due("7, 6, 0: on(" + s + ")", seven.on(s), holds(POINTS_7_6_0, s));
        }
        // These would be points if x and y were taken modulo p.
        int[] wrongPoints = {xy(0, 6), xy(5, 1), xy(2, 4091), xy(4095, 1), MIN, MIN + 1, MAX,
            xy(0, 1) + (1 << 24), xy(0, 1) | MIN};
        five = desk(5, 1, 1);
        for (int s : wrongPoints) {
            due("on(" + s + ")", five.on(s), false);
        }
    }

    private static final int[] NO_POINTS = {MIN, -3, -2, 0, 2, 5, 6, xy(1, 1), xy(5, 1), xy(4, 7), MAX};

    private static void promise9Add() {
        CurveDesk desk = desk(5, 1, 1);
        due("add(inf, inf)", desk.add(INFINITY, INFINITY), INFINITY);
        due("add(inf, (0, 1))", desk.add(INFINITY, xy(0, 1)), xy(0, 1));
        due("add((0, 1), inf)", desk.add(xy(0, 1), INFINITY), xy(0, 1));
        due("add((0, 1), (0, 4))", desk.add(xy(0, 1), xy(0, 4)), INFINITY);
        due("add((0, 1), (0, 1))", desk.add(xy(0, 1), xy(0, 1)), xy(4, 2));
        due("add((4, 2), (0, 1))", desk.add(xy(4, 2), xy(0, 1)), xy(2, 1));
        due("add((0, 1), (4, 2))", desk.add(xy(0, 1), xy(4, 2)), xy(2, 1));
        for (int s : NO_POINTS) {
            due("add(" + s + ", inf)", desk.add(s, INFINITY), -2);
            due("add(inf, " + s + ")", desk.add(INFINITY, s), -2);
            due("add(" + s + ", (0, 1))", desk.add(s, xy(0, 1)), -2);
            due("add((0, 1), " + s + ")", desk.add(xy(0, 1), s), -2);
            due("add(" + s + ", " + s + ")", desk.add(s, s), -2);
        }
        CurveDesk flat = desk(7, 6, 0);
        due("add((0, 0), (0, 0))", flat.add(0, 0), INFINITY);
        due("add((0, 0), (1, 0))", flat.add(0, xy(1, 0)), xy(6, 0));
        due("add((4, 2), (4, 2))", flat.add(xy(4, 2), xy(4, 2)), xy(1, 0));
    }

    private static void promise10Negative() {
        CurveDesk desk = desk(7, 6, 0);
        due("negative((4, 2))", desk.negative(xy(4, 2)), xy(4, 5));
        due("negative((4, 5))", desk.negative(xy(4, 5)), xy(4, 2));
        due("negative((6, 0))", desk.negative(xy(6, 0)), xy(6, 0));
        due("negative((0, 0))", desk.negative(0), 0);
        due("negative(inf)", desk.negative(INFINITY), INFINITY);
        CurveDesk five = desk(5, 1, 1);
        for (int s : NO_POINTS) {
            due("negative(" + s + ")", five.negative(s), -2);
        }
    }

    private static void promise11Times() {
        CurveDesk desk = desk(5, 1, 1);
        // (0, 1) has order 9; 2147483647 = 9 * 238609294 + 1, 2147483648 leaves 2.
        int s = xy(0, 1);
        int[] want = {INFINITY, s, xy(4, 2), xy(2, 1)};
        for (int k = 0; k < want.length; k++) {
            due("times(" + k + ", s)", desk.times(k, s), want[k]);
            due("times(" + (9 + k) + ", s)", desk.times(9 + k, s), want[k]);
            due("times(" + (k - 9) + ", s)", desk.times(k - 9, s), want[k]);
        }
        due("times(-1, s)", desk.times(-1, s), xy(0, 4));
        due("times(-2, s)", desk.times(-2, s), xy(4, 3));
        due("times(MAX, s)", desk.times(MAX, s), s);
        due("times(-MAX, s)", desk.times(-MAX, s), xy(0, 4));
        due("times(MIN, s)", desk.times(MIN, s), xy(4, 3));
        for (int k : new int[] {MIN, -1, 0, 1, 2, MAX}) {
            due("times(" + k + ", inf)", desk.times(k, INFINITY), INFINITY);
            for (int t : NO_POINTS) {
                due("times(" + k + ", " + t + ")", desk.times(k, t), -2);
            }
        }
        CurveDesk flat = desk(7, 6, 0);
        due("times(MAX, (1, 0))", flat.times(MAX, xy(1, 0)), xy(1, 0));
        due("times(MIN, (1, 0))", flat.times(MIN, xy(1, 0)), INFINITY);
        due("times(-1, (1, 0))", flat.times(-1, xy(1, 0)), xy(1, 0));
    }

    private static void promise12Order() {
        CurveDesk desk = desk(5, 1, 1);
        due("order(inf)", desk.order(INFINITY), 1);
        due("order((0, 1))", desk.order(xy(0, 1)), 9);
        due("order((2, 1))", desk.order(xy(2, 1)), 3);
        for (int s : NO_POINTS) {
            due("order(" + s + ")", desk.order(s), -2);
        }
        CurveDesk flat = desk(7, 6, 0);
        due("order((0, 0))", flat.order(0), 2);
        due("order((6, 0))", flat.order(xy(6, 0)), 2);
        due("order((4, 2))", flat.order(xy(4, 2)), 4);
    }

    private static void promise13Division() {
        CurveDesk desk = desk(23, 1, 1);
        // At x 3: xxx + x + 1 = 31 = 8, q = 9; f3 = 243 + 54 + 36 - 1 = 332 = 10.
        divisionsAre(desk, 3, new int[] {0, 1, 1, 10, 19, 10, 9, 4, 20, 16, 15, 7, 15, 3, 17, 7, 5, 8, 17,
            5, 5, 10, 18, 16, 5, 13, 13, 15, 0, 18, 19, 14, 13, 20, 19, 18, 3, 1, 18, 15, 6});
        // x 22 is -1: xxx + x + 1 = -1, q = -4; f3 = 3 + 6 - 12 - 1 = -4 = 19.
        divisionsAre(desk, 22, new int[] {0, 1, 1, 19, 21, 9, 3, 12, 20, 2, 20, 21, 20, 11, 3, 14, 21, 4, 1,
            22, 0, 1, 22, 19, 2, 9, 20, 12, 3, 2, 3, 21, 3, 11, 20, 14, 2, 4, 22, 22, 0});
        for (int n : new int[] {MIN, -1, 41, 42, MAX}) {
            due("division(" + n + ", 3)", desk.division(n, 3), -1);
        }
        for (int x : new int[] {MIN, -1, 23, 24, 4092, MAX}) {
            due("division(0, " + x + ")", desk.division(0, x), -1);
            due("division(5, " + x + ")", desk.division(5, x), -1);
        }
        // fn is 0 at the x of a point just if n times the point is infinity (n odd).
        CurveDesk five = desk(5, 1, 1);
        due("division(3, 2)", five.division(3, 2), 0);
        due("division(9, 0)", five.division(9, 0), 0);
        due("division(3, 0)", five.division(3, 0), 4);
    }

    private static void divisionsAre(CurveDesk desk, int x, int[] want) {
        for (int n = 0; n < want.length; n++) {
            due("division(" + n + ", " + x + ")", desk.division(n, x), want[n]);
        }
    }

    private static void promise14Twist() {
        CurveDesk desk = desk(5, 1, 1);
        int[] want = {9, 3, 3, 9};
        for (int g = 1; g <= want.length; g++) {
            due("twist(" + g + ")", desk.twist(g), want[g - 1]);
        }
        presentIs(desk, "after twist", 5, 1, 1, 9);
        pointsAre(desk, POINTS_5_1_1);
        for (int g : new int[] {MIN, -1, 0, 5, 6, 4092, 4093, MAX}) {
            due("twist(" + g + ")", desk.twist(g), -1);
        }
    }

    /** The example of README.md, so that what it tells stays true. */
    private static void readmeExample() {
        CurveDesk desk = new CurveDesk();
        due("README: curve(23, 1, 1)", desk.curve(23, 1, 1), 0);
        due("README: count()", desk.count(), 28);
        due("README: trace(7)", desk.trace(7), 3);
        due("README: roots(3)", desk.roots(3), 2);
        due("README: point(0)", desk.point(0), 1);
        due("README: point(27)", desk.point(27), INFINITY);
        int s = 4096 * 3 + 10;
        due("README: on(s)", desk.on(s), true);
        due("README: add(s, (9, 7))", desk.add(s, 4096 * 9 + 7), 4096 * 17 + 20);
        due("README: negative(s)", desk.negative(s), 4096 * 3 + 13);
        due("README: times(2, s)", desk.times(2, s), 4096 * 7 + 12);
        due("README: order(s)", desk.order(s), 28);
        due("README: times(28, s)", desk.times(28, s), INFINITY);
        due("README: division(5, 3)", desk.division(5, 3), 10);
        due("README: twist(5)", desk.twist(5), 20);
        due("README: curve(9, 1, 1)", desk.curve(9, 1, 1), -1);
        due("README: coefficient(0)", desk.coefficient(0), 23);
    }

    public static void main(String[] args) {
        promise1NewObject();
        promise2Curve();
        promise3Coefficient();
        promise4Count();
        promise5Trace();
        promise6Roots();
        promise7Point();
        promise8On();
        promise9Add();
        promise10Negative();
        promise11Times();
        promise12Order();
        promise13Division();
        promise14Twist();
        readmeExample();
        System.out.println(wrong == 0 ? "all answers are as due" : wrong + " answers are not as due");
        if (wrong != 0) {
            System.exit(1);
        }
    }
}
