import java.math.BigInteger;
import java.util.ArrayList;
import java.util.List;
import java.util.Random;

/**
 * Compares the class with a slow model that follows the document's words: every curve over the
 * least primes with every point, and some curves over greater primes with some points.
 */
public final class ModelTest {
    private static final int INFINITY = -1;
    private static final int NO_POINT = -2;

    private static long wrong = 0;
    private static long compared = 0;

    private static void due(Model model, String call, long got, long want) {
        compared++;
        if (got != want) {
            wrong++;
            if (wrong <= 50) {
                System.out.println(model.name() + ": " + call + " answered " + got + ", due is " + want);
            }
        }
    }

    /** A desk with the model's curve, made anew before the 512 calls that the document promises end. */
    private static final class Desk {
        final Model model;
        CurveDesk present;
        int calls;

        Desk(Model model) {
            this.model = model;
            renew();
        }

        /** A curve with the greatest prime comes first, so that what it leaves behind is met too. */
        void renew() {
            present = new CurveDesk();
            due(model, "curve before", present.curve(4093, 4092, 4092), 0);
            due(model, "curve", present.curve(model.p, model.a, model.b), 0);
            calls = 2;
        }

        CurveDesk next() {
            if (calls == 512) {
                renew();
            }
            calls++;
            return present;
        }
    }

    /** One curve, by the document's terms. */
    private static final class Model {
        final int p;
        final int a;
        final int b;
        final List<Integer> points;

        Model(int p, int a, int b) {
            this.p = p;
            this.a = a;
            this.b = b;
            this.points = pointsOf(p, a, b);
        }

        String name() {
            return "curve " + p + ", " + a + ", " + b;
        }

        static long mod(long v, long p) {
            return ((v % p) + p) % p;
        }

        static List<Integer> pointsOf(long p, long a, long b) {
            List<List<Integer>> rootsOf = new ArrayList<>();
            for (int v = 0; v < p; v++) {
                rootsOf.add(new ArrayList<>());
            }
            for (int y = 0; y < p; y++) {
                rootsOf.get((int) ((long) y * y % p)).add(y);
            }
            List<Integer> found = new ArrayList<>();
            for (int x = 0; x < p; x++) {
                for (int y : rootsOf.get((int) (((long) x * x * x + a * x + b) % p))) {
                    found.add(4096 * x + y);
                }
            }
            found.add(INFINITY);
            return found;
        }

        long divide(long u, long v) {
            BigInteger prime = BigInteger.valueOf(p);
            BigInteger inverse = BigInteger.valueOf(v).modInverse(prime);
            return BigInteger.valueOf(u).multiply(inverse).mod(prime).longValue();
        }

        int sum(int s, int t) {
            if (s == INFINITY) {
                return t;
            }
            if (t == INFINITY) {
                return s;
            }
            long x1 = s / 4096;
            long y1 = s % 4096;
            long x2 = t / 4096;
            long y2 = t % 4096;
            if (x1 == x2 && (y1 != y2 || y1 == 0)) {
                return INFINITY;
            }
            long m = x1 != x2 ? divide(y2 - y1, x2 - x1) : divide(3 * x1 * x1 + a, 2 * y1);
            long x3 = mod(m * m - x1 - x2, p);
            long y3 = mod(m * (x1 - x3) - y1, p);
            return (int) (4096 * x3 + y3);
        }

        int negative(int s) {
            if (s == INFINITY || s % 4096 == 0) {
                return s;
            }
            return s - s % 4096 + p - s % 4096;
        }

        /** 0 times, 1 times, 2 times s and so on, up to the last before infinity comes again. */
        List<Integer> multiples(int s) {
            List<Integer> row = new ArrayList<>();
            int next = INFINITY;
            do {
                row.add(next);
                next = sum(next, s);
            } while (next != INFINITY);
            return row;
        }

        int times(int k, int s) {
            if (!points.contains(s)) {
                return NO_POINT;
            }
            List<Integer> row = multiples(s);
            return row.get(Math.floorMod(k, row.size()));
        }

        int rootsAt(int x) {
            int found = 0;
            for (int s : points) {
                if (s != INFINITY && s / 4096 == x) {
                    found++;
                }
            }
            return found;
        }

        int twist(long g) {
            return pointsOf(p, a * g * g % p, b * g % p * g % p * g % p).size();
        }

        /** f0 .. f40 at x, in whole numbers that are reduced at the end of each formula. */
        BigInteger[] divisionValues(int atX) {
            BigInteger prime = BigInteger.valueOf(p);
            BigInteger x = BigInteger.valueOf(atX);
            BigInteger ca = BigInteger.valueOf(a);
            BigInteger cb = BigInteger.valueOf(b);
            BigInteger q = n(4).multiply(x.pow(3).add(ca.multiply(x)).add(cb));
            BigInteger[] f = new BigInteger[41];
            f[0] = n(0);
            f[1] = n(1);
            f[2] = n(1);
            f[3] = n(3).multiply(x.pow(4)).add(n(6).multiply(ca).multiply(x.pow(2)))
                .add(n(12).multiply(cb).multiply(x)).subtract(ca.pow(2)).mod(prime);
            f[4] = n(2).multiply(x.pow(6)
                .add(n(5).multiply(ca).multiply(x.pow(4)))
                .add(n(20).multiply(cb).multiply(x.pow(3)))
                .subtract(n(5).multiply(ca.pow(2)).multiply(x.pow(2)))
                .subtract(n(4).multiply(ca).multiply(cb).multiply(x))
                .subtract(n(8).multiply(cb.pow(2)))
                .subtract(ca.pow(3))).mod(prime);
            for (int i = 5; i <= 40; i++) {
                f[i] = laterValue(f, i / 2, i % 2 == 1, q.pow(2)).mod(prime);
            }
            return f;
        }

        static BigInteger laterValue(BigInteger[] f, int m, boolean odd, BigInteger qq) {
            if (!odd) {
                return f[m].multiply(f[m + 2].multiply(f[m - 1].pow(2))
                    .subtract(f[m - 2].multiply(f[m + 1].pow(2))));
            }
            BigInteger left = f[m + 2].multiply(f[m].pow(3));
            BigInteger right = f[m - 1].multiply(f[m + 1].pow(3));
            return m % 2 == 0 ? qq.multiply(left).subtract(right) : left.subtract(qq.multiply(right));
        }

        static BigInteger n(long v) {
            return BigInteger.valueOf(v);
        }
    }

    private static void compareWhole(Model model, Desk desk) {
        due(model, "coefficient(0)", desk.next().coefficient(0), model.p);
        due(model, "coefficient(1)", desk.next().coefficient(1), model.a);
        due(model, "coefficient(2)", desk.next().coefficient(2), model.b);
        due(model, "count()", desk.next().count(), model.points.size());
        for (int k = -1; k <= model.points.size(); k++) {
            boolean there = k >= 0 && k < model.points.size();
            due(model, "point(" + k + ")", desk.next().point(k), there ? model.points.get(k) : NO_POINT);
        }
        int trace = model.p + 1 - model.points.size();
        for (int m = 2; m <= 1000; m++) {
            due(model, "trace(" + m + ")", desk.next().trace(m), (trace + 1000L * m) % m);
        }
    }

    private static void compareNumber(Model model, Desk desk, int x) {
        due(model, "roots(" + x + ")", desk.next().roots(x), model.rootsAt(x));
        due(model, "twist(" + x + ")", desk.next().twist(x), x == 0 ? -1 : model.twist(x));
        BigInteger[] f = model.divisionValues(x);
        for (int n = 40; n >= 0; n--) {
            due(model, "division(" + n + ", " + x + ")", desk.next().division(n, x), f[n].longValue());
        }
    }

    private static final int[] FACTORS = {Integer.MIN_VALUE, Integer.MIN_VALUE + 1, -1000000007, -4093,
        -17, -3, -2, -1, 0, 1, 2, 3, 4, 5, 6, 7, 31, 4096, 1000000007, Integer.MAX_VALUE};

    private static void comparePoint(Model model, Desk desk, int s) {
        due(model, "on(" + s + ")", desk.next().on(s) ? 1 : 0, 1);
        due(model, "negative(" + s + ")", desk.next().negative(s), model.negative(s));
        List<Integer> multiples = model.multiples(s);
        due(model, "order(" + s + ")", desk.next().order(s), multiples.size());
        for (int k : FACTORS) {
            int place = Math.floorMod(k, multiples.size());
            due(model, "times(" + k + ", " + s + ")", desk.next().times(k, s), multiples.get(place));
        }
    }

    private static void comparePair(Model model, Desk desk, int s, int t) {
        due(model, "add(" + s + ", " + t + ")", desk.next().add(s, t), model.sum(s, t));
    }

    /** The ends of the ints and of what is taken, near -1 and 0, and ints that are points but for p. */
    private static int[] edges(Model model) {
        int p = model.p;
        int s = model.points.get(0);
        return new int[] {Integer.MIN_VALUE, Integer.MIN_VALUE + 1, -4097, -4096, -p, -3, -2, -1, 0, 1, 2,
            40, 41, p - 1, p, p + 1, 999, 1000, 1001, 4095, 4096, model.points.size() - 1,
            model.points.size(), s, s + p, s - p, s + 4096 * p, s + (1 << 24), 4096 * (p - 1) + p - 1,
            4096 * (p - 1) + p, 4096 * p, (1 << 24) - 1, 1 << 24, Integer.MAX_VALUE - 1, Integer.MAX_VALUE};
    }

    /** Every int is an argument; a wrong one has its answer, too. */
    private static void compareEdges(Model model, Desk desk) {
        int known = model.points.get(0);
        for (int v : edges(model)) {
            boolean there = model.points.contains(v);
            boolean number = v >= 0 && v < model.p;
            due(model, "on(" + v + ")", desk.next().on(v) ? 1 : 0, there ? 1 : 0);
            due(model, "add(" + v + ", s)", desk.next().add(v, known), there ? model.sum(v, known) : NO_POINT);
            due(model, "add(s, " + v + ")", desk.next().add(known, v), there ? model.sum(known, v) : NO_POINT);
            due(model, "negative(" + v + ")", desk.next().negative(v), there ? model.negative(v) : NO_POINT);
            due(model, "order(" + v + ")", desk.next().order(v), there ? model.multiples(v).size() : NO_POINT);
            for (int k : edges(model)) {
                due(model, "times(" + k + ", " + v + ")", desk.next().times(k, v), model.times(k, v));
                due(model, "division(" + k + ", " + v + ")", desk.next().division(k, v),
                    number && k >= 0 && k <= 40 ? model.divisionValues(v)[k].longValue() : -1);
            }
            due(model, "roots(" + v + ")", desk.next().roots(v), number ? model.rootsAt(v) : -1);
            due(model, "twist(" + v + ")", desk.next().twist(v), number && v != 0 ? model.twist(v) : -1);
            due(model, "point(" + v + ")", desk.next().point(v),
                v >= 0 && v < model.points.size() ? model.points.get(v) : NO_POINT);
            due(model, "trace(" + v + ")", desk.next().trace(v),
                v >= 2 && v <= 1000 ? Math.floorMod(model.p + 1 - model.points.size(), v) : -1);
        }
    }

    private static void compareAll(Model model, Desk desk) {
        compareWhole(model, desk);
        compareEdges(model, desk);
        for (int x = 0; x < model.p; x++) {
            compareNumber(model, desk, x);
        }
        for (int s : model.points) {
            comparePoint(model, desk, s);
            for (int t : model.points) {
                comparePair(model, desk, s, t);
            }
        }
    }

    private static void compareSome(Model model, Desk desk, Random random) {
        compareWhole(model, desk);
        compareEdges(model, desk);
        compareNumber(model, desk, 0);
        compareNumber(model, desk, model.p - 1);
        for (int i = 0; i < 20; i++) {
            compareNumber(model, desk, random.nextInt(model.p));
            int s = model.points.get(random.nextInt(model.points.size()));
            int t = model.points.get(random.nextInt(model.points.size()));
            comparePoint(model, desk, s);
            comparePair(model, desk, s, t);
            comparePair(model, desk, s, s);
            comparePair(model, desk, s, model.negative(s));
        }
        for (int i = 0; i < 1000; i++) {
            int s = random.nextInt(model.p) * 4096 + random.nextInt(4096);
            boolean there = model.points.contains(s);
            due(model, "on(" + s + ")", desk.next().on(s) ? 1 : 0, there ? 1 : 0);
        }
    }

    private static boolean isCurve(long p, long a, long b) {
        return (4 * a * a * a + 27 * b * b) % p != 0;
    }

    private static void leastPrimes() {
        for (int p : new int[] {5, 7, 11}) {
            for (int a = 0; a < p; a++) {
                for (int b = 0; b < p; b++) {
                    Model model = new Model(p, a, b);
                    if (isCurve(p, a, b)) {
                        compareAll(model, new Desk(model));
                    } else {
                        due(model, "curve", new CurveDesk().curve(p, a, b), -3);
                    }
                }
            }
        }
    }

    private static void greaterPrimes() {
        // A seed that stays, so that every run compares the same curves.
        Random random = new Random(20261116);
        for (int p : new int[] {13, 17, 23, 101, 997, 1009, 2053, 3001, 4079, 4091, 4093}) {
            compareSeveral(random, p);
        }
    }

    private static void compareSeveral(Random random, int p) {
        int[] edges = {0, 1, p - 1, random.nextInt(p)};
        for (int a : edges) {
            for (int b : edges) {
                Model model = new Model(p, a, b);
                if (isCurve(p, a, b)) {
                    compareSome(model, new Desk(model), random);
                } else {
                    due(model, "curve", new CurveDesk().curve(p, a, b), -3);
                }
            }
        }
    }

    /** Which ints are primes that curve takes, by BigInteger's own test. */
    private static void allPrimes() {
        Model none = new Model(5, 1, 1);
        for (int p = -10; p < 9000; p++) {
            CurveDesk desk = new CurveDesk();
            boolean prime = p >= 5 && p <= 4093 && BigInteger.valueOf(p).isProbablePrime(50);
            due(none, "curve(" + p + ", 1, 0)", desk.curve(p, 1, 0), prime ? 0 : -1);
            due(none, "curve(" + p + ", 0, 0)", desk.curve(p, 0, 0), prime ? -3 : -1);
        }
    }

    public static void main(String[] args) {
        allPrimes();
        leastPrimes();
        greaterPrimes();
        System.out.println(compared + " answers compared, " + wrong + " not as due");
        if (wrong != 0) {
            System.exit(1);
        }
    }
}
