import java.math.BigInteger;
import java.util.Arrays;

/**
 * The document's words done the long way round: every rest, pair and row is looked at by itself, and
 * numbers are polynomials divided by the relation of their degree. It shares no shortcut with the program.
 */
final class Reference {
    static final int LEAST_INT = Integer.MIN_VALUE;
    static final long LEAST_LONG = Long.MIN_VALUE;
    static final int NONE = -1, UNKNOWN = -2, OUTSIDE = -3, NOT = -4, GREAT = -5;

    /** The relations as the document writes them, the lowest power first. */
    private static final int[][] POLYNOMIALS = {
        {}, {-1, 1}, {1, 1}, {1, 1, 1}, {1, 0, 1}, {1, 1, 1, 1, 1}, {1, -1, 1}, {1, 1, 1, 1, 1, 1, 1},
        {1, 0, 0, 0, 1}, {1, 0, 0, 1, 0, 0, 1}, {1, -1, 1, -1, 1}, {1, 1, 1, 1, 1, 1, 1, 1, 1, 1, 1},
        {1, 0, -1, 0, 1}
    };

    int p = 13;
    int d = 2;
    BigInteger[][] holds = zeros(6, 1);

    static Reference of(int p, int d) {
        Reference r = new Reference();
        r.prime(p);
        r.degree(d);
        return r;
    }

    private static BigInteger[][] zeros(int many, int length) {
        BigInteger[][] rows = new BigInteger[many][length];
        for (BigInteger[] row : rows) {
            Arrays.fill(row, BigInteger.ZERO);
        }
        return rows;
    }

    private static BigInteger[] zeroRow(int length) {
        return zeros(1, length)[0];
    }

    private static int mod(long x, int by) {
        return (int) (((x % by) + by) % by);
    }

    static int gcd(int a, int b) {
        return b == 0 ? Math.abs(a) : gcd(b, a % b);
    }

    static boolean isOddPrime(int n) {
        return n > 2 && BigInteger.valueOf(n).isProbablePrime(50);
    }

    int phi() {
        int many = 0;
        for (int k = 1; k <= d; k++) {
            if (gcd(k, d) == 1) {
                many++;
            }
        }
        return many;
    }

    private int power(int g, int k) {
        return BigInteger.valueOf(g).modPow(BigInteger.valueOf(k), BigInteger.valueOf(p)).intValue();
    }

    /** Roots and rows of indices that were sought once, by their primes: many objects are made of each. */
    private static final int[] ROOTS = new int[200];
    private static final int[][] INDICES = new int[200][];

    int root() {
        if (ROOTS[p] == 0) {
            ROOTS[p] = soughtRoot();
        }
        return ROOTS[p];
    }

    private int soughtRoot() {
        for (int g = 0; ; g++) {
            boolean[] seen = new boolean[p];
            int many = 0;
            for (int k = 0; k <= p - 2; k++) {
                int x = power(g, k);
                if (x != 0 && !seen[x]) {
                    seen[x] = true;
                    many++;
                }
            }
            if (many == p - 1) {
                return g;
            }
        }
    }

    int index(int x) {
        if (INDICES[p] == null) {
            INDICES[p] = new int[p];
            for (int k = 0; k <= p - 2; k++) {
                INDICES[p][power(root(), k)] = k;
            }
        }
        return INDICES[p][x];
    }

    int classOf(int x) {
        return index(x) % d;
    }

    int prime(int newP) {
        if (newP < 3 || newP > 199 || !isOddPrime(newP)) {
            return OUTSIDE;
        }
        p = newP;
        d = 2;
        holds = zeros(6, 1);
        return root();
    }

    int degree(int newD) {
        if (newD < 1 || newD > 12 || (p - 1) % newD != 0) {
            return OUTSIDE;
        }
        d = newD;
        holds = zeros(6, phi());
        return phi();
    }

    int rest(int x, int what) {
        if (what != 0 && what != 1) {
            return OUTSIDE;
        }
        int r = mod(x, p);
        return r == 0 ? NONE : what == 0 ? index(r) : classOf(r);
    }

    int meeting(int i, int j) {
        if (i < 0 || i >= d || j < 0 || j >= d) {
            return UNKNOWN;
        }
        int many = 0;
        for (int x = 0; x < p; x++) {
            int next = (x + 1) % p;
            if (x != 0 && next != 0 && classOf(x) == i && classOf(next) == j) {
                many++;
            }
        }
        return many;
    }

    private boolean noHold(int hold) {
        return hold < 0 || hold > 5;
    }

    private BigInteger[] reduced(BigInteger[] row) {
        BigInteger[] rest = row.clone();
        int[] by = POLYNOMIALS[d];
        int top = by.length - 1;
        for (int high = rest.length - 1; high >= top; high--) {
            BigInteger lead = rest[high];
            for (int i = 0; i <= top; i++) {
                rest[high - top + i] = rest[high - top + i].subtract(lead.multiply(BigInteger.valueOf(by[i])));
            }
        }
        return Arrays.copyOf(rest, top);
    }

    private BigInteger[] product(BigInteger[] one, BigInteger[] two) {
        BigInteger[] row = zeroRow(one.length + two.length);
        for (int i = 0; i < one.length; i++) {
            for (int j = 0; j < two.length; j++) {
                row[i + j] = row[i + j].add(one[i].multiply(two[j]));
            }
        }
        return reduced(row);
    }

    private BigInteger[] turned(BigInteger[] one, int t) {
        BigInteger[] row = zeroRow(Math.max(d * d, one.length));
        for (int i = 0; i < one.length; i++) {
            int e = mod((long) i * t, d);
            row[e] = row[e].add(one[i]);
        }
        return reduced(row);
    }

    private int keep(int hold, BigInteger[] row) {
        for (BigInteger c : row) {
            if (c.abs().compareTo(BigInteger.valueOf(100000000)) > 0) {
                return GREAT;
            }
        }
        holds[hold] = row;
        return 1;
    }

    int sum(int hold, int a, int b) {
        if (noHold(hold)) {
            return UNKNOWN;
        }
        BigInteger[] row = zeroRow(Math.max(d, 2));
        int many = 0;
        for (int x = 2; x < p; x++) {
            int e = mod((long) a * classOf(x) + (long) b * classOf(mod(1 - x, p)), d);
            row[e] = row[e].add(BigInteger.ONE);
            many++;
        }
        holds[hold] = reduced(row);
        return many;
    }

    int unit(int hold, int c, int k) {
        if (noHold(hold)) {
            return UNKNOWN;
        }
        if (c < -1000 || c > 1000) {
            return OUTSIDE;
        }
        BigInteger[] row = zeroRow(Math.max(d, 2));
        row[mod(k, d)] = BigInteger.valueOf(c);
        holds[hold] = reduced(row);
        return 1;
    }

    int join(int hold, int way, int one, int two) {
        if (noHold(hold) || noHold(one) || noHold(two)) {
            return UNKNOWN;
        }
        if (way < 0 || way > 2) {
            return OUTSIDE;
        }
        if (way == 2) {
            return keep(hold, product(holds[one], holds[two]));
        }
        BigInteger[] row = holds[one].clone();
        for (int i = 0; i < row.length; i++) {
            row[i] = way == 0 ? row[i].add(holds[two][i]) : row[i].subtract(holds[two][i]);
        }
        return keep(hold, row);
    }

    int turn(int hold, int other, int t) {
        if (noHold(hold) || noHold(other)) {
            return UNKNOWN;
        }
        if (gcd(mod(t, d), d) != 1) {
            return OUTSIDE;
        }
        return keep(hold, turned(holds[other], t));
    }

    int at(int hold, int i) {
        return noHold(hold) || i < 0 || i >= holds[hold].length ? LEAST_INT : holds[hold][i].intValueExact();
    }

    int same(int one, int two) {
        if (noHold(one) || noHold(two)) {
            return UNKNOWN;
        }
        return Arrays.equals(holds[one], holds[two]) ? 1 : 0;
    }

    long size(int hold) {
        if (noHold(hold)) {
            return LEAST_LONG;
        }
        BigInteger[] row = product(holds[hold], turned(holds[hold], d == 1 ? 1 : d - 1));
        for (int i = 1; i < row.length; i++) {
            if (row[i].signum() != 0) {
                return LEAST_LONG;
            }
        }
        return row[0].longValueExact();
    }

    int solutions(int a, int b, int c) {
        int[] like = new int[p];
        for (int x = 0; x < p; x++) {
            like[x] = power(x, d);
        }
        int many = 0;
        for (int x = 0; x < p; x++) {
            for (int y = 0; y < p; y++) {
                if (mod((long) mod(a, p) * like[x] + (long) mod(b, p) * like[y] - c, p) == 0) {
                    many++;
                }
            }
        }
        return many;
    }

    long rows(int k) {
        if (k < 0 || k > 6) {
            return OUTSIDE;
        }
        long[] coming = new long[p];
        coming[0] = 1;
        for (int step = 0; step < k; step++) {
            long[] next = new long[p];
            for (int s = 0; s < p; s++) {
                for (int x = 1; x < p; x++) {
                    if (classOf(x) == 0) {
                        next[(s + x) % p] += coming[s];
                    }
                }
            }
            coming = next;
        }
        return coming[0];
    }

    private boolean noSet(int set) {
        for (int bit = d; bit < 32; bit++) {
            if ((set & (1 << bit)) != 0) {
                return true;
            }
        }
        return false;
    }

    private boolean isIn(int set, int x) {
        return x != 0 && (set & (1 << classOf(x))) != 0;
    }

    private int sign(int set, int e, int x) {
        return x == 0 ? e : isIn(set, x) ? 1 : -1;
    }

    int over(int set, int e, int t) {
        if (noSet(set) || e != 1 && e != -1) {
            return LEAST_INT;
        }
        int all = 0;
        for (int x = 0; x < p; x++) {
            all += sign(set, e, x) * sign(set, e, mod((long) x + t, p));
        }
        return all;
    }

    int peak(int set, int e) {
        if (noSet(set)) {
            return UNKNOWN;
        }
        if (e != 1 && e != -1) {
            return OUTSIDE;
        }
        int greatest = 0;
        for (int t = 1; t < p; t++) {
            greatest = Math.max(greatest, Math.abs(over(set, e, t)));
        }
        return greatest;
    }

    int even(int set) {
        if (noSet(set)) {
            return UNKNOWN;
        }
        int[] often = new int[p];
        for (int x = 0; x < p; x++) {
            for (int y = 0; y < p; y++) {
                if (isIn(set, x) && isIn(set, y)) {
                    often[mod(x - y, p)]++;
                }
            }
        }
        for (int r = 1; r < p; r++) {
            if (often[r] != often[1]) {
                return NONE;
            }
        }
        return often[1];
    }

    int classes(int way) {
        if (way != 0 && way != 1) {
            return OUTSIDE;
        }
        if (p % 4 != 3 || p == 3) {
            return NOT;
        }
        return way == 0 ? bySums() : byForms();
    }

    private int bySums() {
        boolean[] square = new boolean[p];
        for (int x = 1; x < p; x++) {
            square[x * x % p] = true;
        }
        int all = 0;
        for (int x = 1; x < p; x++) {
            all += square[x] ? x : -x;
        }
        if (all % p != 0) {
            throw new IllegalStateException("sums do not come out even for " + p);
        }
        return all / -p;
    }

    private int byForms() {
        int many = 0;
        for (int u = -p; u <= p; u++) {
            for (int w = u; w <= p; w++) {
                for (int v = -Math.abs(u); v <= Math.abs(u); v++) {
                    boolean fits = v * v - 4 * u * w == -p && Math.abs(v) <= u && u <= w;
                    if (fits && (v >= 0 || Math.abs(v) != u && u != w)) {
                        many++;
                    }
                }
            }
        }
        return many;
    }

    int count(int what) {
        switch (what) {
            case 0: return p;
            case 1: return root();
            case 2: return d;
            case 3: return phi();
            default: return OUTSIDE;
        }
    }
}
