/** Elliptic curves over a prime field; the promises that are named here stand in the document. */
public final class CurveDesk {
    private static final int LEAST_PRIME = 5;
    private static final int MOST_PRIME = 4093;
    private static final int MOST_DIVISION = 40;
    private static final int LEAST_MODULUS = 2;
    private static final int MOST_MODULUS = 1000;

    /** A point (x, y) is the int x * 4096 + y, so y is its low 12 bits. */
    private static final int Y_BITS = 12;
    private static final int Y_MASK = 4095;
    private static final int INFINITY = -1;

    private static final int NO_POINT = -2;
    private static final int OUT_OF_RANGE = -1;
    private static final int NO_ROOT = -1;

    // The prime is 5 .. 4093 from the constructor on (curve() tests it before it is set),
    // so it may divide, and every number modulo it is an index of the rows below.
    private int prime;
    private int a;
    private int b;
    private int count;

    /** For each number below the prime its lesser square root, or NO_ROOT. */
    private final int[] lesserRoot = new int[MOST_PRIME];
    /** For each x, 0 .. prime, how many points other than infinity have a lesser x. */
    private final int[] pointsBefore = new int[MOST_PRIME + 1];
    /** The division values of one call, kept so that no call has to make a row. */
    private final int[] divisionValue = new int[MOST_DIVISION + 1];

    public CurveDesk() {
        setPresent(5, 1, 1);
    }

    public int curve(int p, int a, int b) {
        if (p < LEAST_PRIME || p > MOST_PRIME || !isPrime(p)) {
            return -1;
        }
        if (a < 0 || a >= p || b < 0 || b >= p) {
            return -2;
        }
        if (isSingular(p, a, b)) {
            return -3;
        }
        setPresent(p, a, b);
        return 0;
    }

    public int coefficient(int k) {
        switch (k) {
            case 0:
                return prime;
            case 1:
                return a;
            case 2:
                return b;
            default:
                return -1;
        }
    }

    public int count() {
        return count;
    }

    public int trace(int m) {
        if (m < LEAST_MODULUS || m > MOST_MODULUS) {
            return OUT_OF_RANGE;
        }
        return Math.floorMod(prime + 1 - count, m);
    }

    public int roots(int x) {
        if (!isNumber(x)) {
            return OUT_OF_RANGE;
        }
        return pointsBefore[x + 1] - pointsBefore[x];
    }

    public int point(int k) {
        if (k < 0 || k >= count) {
            return NO_POINT;
        }
        if (k == count - 1) {
            return INFINITY;
        }
        int x = xOfPoint(k);
        int y = lesserRoot[rightSide(x)];
        return k == pointsBefore[x] ? pack(x, y) : pack(x, prime - y);
    }

    public boolean on(int s) {
        return isPoint(s);
    }

    public int add(int s, int t) {
        return isPoint(s) && isPoint(t) ? sum(s, t) : NO_POINT;
    }

    public int negative(int s) {
        return isPoint(s) ? opposite(s) : NO_POINT;
    }

    public int times(int k, int s) {
        if (!isPoint(s)) {
            return NO_POINT;
        }
        // A long, since the least int has no negative among the ints.
        long factor = k;
        return factor < 0 ? multiple(-factor, opposite(s)) : multiple(factor, s);
    }

    public int order(int s) {
        if (!isPoint(s)) {
            return NO_POINT;
        }
        // The order of a point divides the number of points, so no other k has to be tried.
        for (int k = 1; k < count; k++) {
            if (count % k == 0 && multiple(k, s) == INFINITY) {
                return k;
            }
        }
        return count;
    }

    public int division(int n, int x) {
        if (n < 0 || n > MOST_DIVISION || !isNumber(x)) {
            return OUT_OF_RANGE;
        }
        fillFirstDivisionValues(x);
        int q = modulo(4 * rightSide(x));
        int qq = modulo(q * q);
        for (int i = 5; i <= n; i++) {
            divisionValue[i] = i % 2 == 0 ? evenDivisionValue(i / 2) : oddDivisionValue(i / 2, qq);
        }
        return divisionValue[n];
    }

    public int twist(int g) {
        if (g < 1 || g >= prime) {
            return OUT_OF_RANGE;
        }
        // With x = gu the twisted right side is ggg (uuu + au + b). If g is a square, it has roots
        // where the present one has; if not, just where the present one has none, and so the
        // points of both curves, without the two infinities, are two for each of the p numbers.
        return lesserRoot[g] != NO_ROOT ? count : 2 * prime + 2 - count;
    }

    private static boolean isPrime(int n) {
        for (int d = 2; d * d <= n; d++) {
            if (n % d == 0) {
                return false;
            }
        }
        return true;
    }

    /** Whether 4aaa + 27bb is divisible by p, which is above 0. */
    private static boolean isSingular(int p, int a, int b) {
        int aaa = a * a % p * a % p;
        int bb = b * b % p;
        return (4 * aaa + 27 * bb) % p == 0;
    }

    private void setPresent(int newPrime, int newA, int newB) {
        prime = newPrime;
        a = newA;
        b = newB;
        fillLesserRoots();
        fillPointsBefore();
        count = pointsBefore[prime] + 1;
    }

    private void fillLesserRoots() {
        for (int v = 0; v < prime; v++) {
            lesserRoot[v] = NO_ROOT;
        }
        for (int y = 0; y <= prime / 2; y++) {
            lesserRoot[modulo(y * y)] = y;
        }
    }

    private void fillPointsBefore() {
        pointsBefore[0] = 0;
        for (int x = 0; x < prime; x++) {
            pointsBefore[x + 1] = pointsBefore[x] + rootCount(rightSide(x));
        }
    }

    private int rootCount(int number) {
        if (number == 0) {
            return 1;
        }
        return lesserRoot[number] == NO_ROOT ? 0 : 2;
    }

    /** The x of the k-th point, which is not infinity: the greatest x with at most k points before. */
    private int xOfPoint(int k) {
        int x = 0;
        for (int step = 1 << Y_BITS; step > 0; step >>= 1) {
            if (x + step < prime && pointsBefore[x + step] <= k) {
                x += step;
            }
        }
        return x;
    }

    private boolean isNumber(int v) {
        return v >= 0 && v < prime;
    }

    private boolean isPoint(int s) {
        if (s < 0) {
            return s == INFINITY;
        }
        int x = xOf(s);
        int y = yOf(s);
        return isNumber(x) && isNumber(y) && modulo(y * y) == rightSide(x);
    }

    private static int pack(int x, int y) {
        return (x << Y_BITS) + y;
    }

    private static int xOf(int s) {
        return s >> Y_BITS;
    }

    private static int yOf(int s) {
        return s & Y_MASK;
    }

    // All that is reduced here stays an int: numbers are below 4093, so a product of two is
    // below 17 million, and no sum of such products in this class comes near 2 to the 31st.
    private int modulo(int v) {
        return Math.floorMod(v, prime);
    }

    /** xxx + ax + b. */
    private int rightSide(int x) {
        return modulo(modulo(x * x + a) * x + b);
    }

    /** The number w with wv = 1, for v not 0: v to the power p - 2, by Fermat's little theorem. */
    private int inverse(int v) {
        int result = 1;
        int power = v;
        for (int e = prime - 2; e > 0; e >>= 1) {
            if ((e & 1) == 1) {
                result = modulo(result * power);
            }
            power = modulo(power * power);
        }
        return result;
    }

    private int opposite(int s) {
        if (s == INFINITY || yOf(s) == 0) {
            return s;
        }
        return pack(xOf(s), prime - yOf(s));
    }

    private int sum(int s, int t) {
        if (s == INFINITY) {
            return t;
        }
        if (t == INFINITY) {
            return s;
        }
        if (t == opposite(s)) {
            return INFINITY;
        }
        int m = slope(s, t);
        int x = modulo(m * m - xOf(s) - xOf(t));
        int y = modulo(m * modulo(xOf(s) - x) - yOf(s));
        return pack(x, y);
    }

    /** The m of the sum, for points that are not infinity and not each other's negative. */
    private int slope(int s, int t) {
        int x = xOf(s);
        int y = yOf(s);
        if (s == t) {
            return modulo(modulo(3 * x * x + a) * inverse(modulo(2 * y)));
        }
        return modulo(modulo(yOf(t) - y) * inverse(modulo(xOf(t) - x)));
    }

    /** By doubling, since a factor may be too great for one sum after another. */
    private int multiple(long factor, int s) {
        int result = INFINITY;
        int doubled = s;
        for (long rest = factor; rest > 0; rest >>= 1) {
            if ((rest & 1) == 1) {
                result = sum(result, doubled);
            }
            doubled = sum(doubled, doubled);
        }
        return result;
    }

    private void fillFirstDivisionValues(int x) {
        divisionValue[0] = 0;
        divisionValue[1] = 1;
        divisionValue[2] = 1;
        divisionValue[3] = thirdDivisionValue(x);
        divisionValue[4] = fourthDivisionValue(x);
    }

    private int thirdDivisionValue(int x) {
        int v = modulo(3 * x * x + 6 * a);
        v = modulo(v * x + 12 * b);
        return modulo(v * x - a * a);
    }

    private int fourthDivisionValue(int x) {
        int v = modulo(x * x + 5 * a);
        v = modulo(v * x + 20 * b);
        v = modulo(v * x - 5 * a * a);
        v = modulo(v * x - 4 * a * b);
        v = modulo(v * x - 8 * b * b - modulo(a * a) * a);
        return modulo(2 * v);
    }

    /** f(2m) for m 3 .. 20. */
    private int evenDivisionValue(int m) {
        int[] f = divisionValue;
        int left = modulo(f[m + 2] * modulo(f[m - 1] * f[m - 1]));
        int right = modulo(f[m - 2] * modulo(f[m + 1] * f[m + 1]));
        return modulo(f[m] * modulo(left - right));
    }

    /** f(2m + 1) for m 2 .. 19. */
    private int oddDivisionValue(int m, int qq) {
        int[] f = divisionValue;
        int left = modulo(f[m + 2] * cube(f[m]));
        int right = modulo(f[m - 1] * cube(f[m + 1]));
        return m % 2 == 0 ? modulo(qq * left - right) : modulo(left - qq * right);
    }

    private int cube(int v) {
        return modulo(modulo(v * v) * v);
    }
}
