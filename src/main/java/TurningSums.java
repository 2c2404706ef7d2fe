import java.util.Arrays;

/** Sums of turning signs, as ../shared/DOC.md tells; words in capitals there keep their meaning here. */
public final class TurningSums {
    public static final int NONE = -1, UNKNOWN = -2, OUTSIDE = -3, NOT = -4, GREAT = -5;

    private static final int LEAST_INT = 0x80000000;
    private static final long LEAST_LONG = 0x8000000000000000L;
    private static final int GREATEST_PRIME = 199;
    private static final int GREATEST_DEGREE = 12;
    private static final int MOST_COEFFICIENTS = 10;
    private static final int HOLDS = 6;
    private static final int BOUND = 100000000;
    private static final int GREATEST_FACTOR = 1000;
    private static final int LONGEST_ROW = 6;
    /** 4uu is at most 4uw = vv + P, and that at most uu + P: 3uu is at most 199. */
    private static final int GREATEST_FIRST_OF_FORM = 8;

    /**
     * The relation of each degree, ten places a degree from degree 1 on: z^PHI plus these times
     * 1, z, z^2, .. is 0.
     */
    private static final int[] RELATIONS = {
        -1, 0, 0, 0, 0, 0, 0, 0, 0, 0,
        1, 0, 0, 0, 0, 0, 0, 0, 0, 0,
        1, 1, 0, 0, 0, 0, 0, 0, 0, 0,
        1, 0, 0, 0, 0, 0, 0, 0, 0, 0,
        1, 1, 1, 1, 0, 0, 0, 0, 0, 0,
        1, -1, 0, 0, 0, 0, 0, 0, 0, 0,
        1, 1, 1, 1, 1, 1, 0, 0, 0, 0,
        1, 0, 0, 0, 0, 0, 0, 0, 0, 0,
        1, 0, 0, 1, 0, 0, 0, 0, 0, 0,
        1, -1, 1, -1, 0, 0, 0, 0, 0, 0,
        1, 1, 1, 1, 1, 1, 1, 1, 1, 1,
        1, 0, -1, 0, 0, 0, 0, 0, 0, 0
    };

    // All rows are made once here and used again by every call, so that calls make no objects.
    private final int[] indexOf = new int[GREATEST_PRIME];
    private final int[] powerOf = new int[GREATEST_PRIME];
    private final int[] signOf = new int[GREATEST_PRIME];
    private final int[] timesOf = new int[GREATEST_PRIME];
    private final int[][] holds = new int[HOLDS][MOST_COEFFICIENTS];
    private final long[] work = new long[GREATEST_DEGREE];
    private final long[] rowsOfClass = new long[GREATEST_DEGREE];
    private final long[] longerOfClass = new long[GREATEST_DEGREE];
    private int p;
    private int root;
    private int d;
    private int phi;

    public TurningSums() {
        setPrime(13);
    }

    public int prime(int p) {
        if (p < 3 || p > GREATEST_PRIME || !isPrime(p)) {
            return OUTSIDE;
        }
        setPrime(p);
        return root;
    }

    public int degree(int d) {
        if (d < 1 || d > GREATEST_DEGREE || (p - 1) % d != 0) {
            return OUTSIDE;
        }
        setDegree(d);
        return phi;
    }

    // ---- rests, classes

    public int rest(int x, int what) {
        if (what < 0 || what > 1) {
            return OUTSIDE;
        }
        int r = Math.floorMod(x, p);
        if (r == 0) {
            return NONE;
        }
        return what == 0 ? indexOf[r] : classOf(r);
    }

    public int meeting(int i, int j) {
        if (!isClass(i) || !isClass(j)) {
            return UNKNOWN;
        }
        int often = 0;
        for (int x = 1; x < p - 1; x++) {
            if (classOf(x) == i && classOf(x + 1) == j) {
                often++;
            }
        }
        return often;
    }

    // ---- numbers

    public int sum(int hold, int a, int b) {
        if (!isHold(hold)) {
            return UNKNOWN;
        }
        int first = Math.floorMod(a, d);
        int second = Math.floorMod(b, d);
        Arrays.fill(work, 0);
        for (int x = 2; x < p; x++) {
            work[(first * classOf(x) + second * classOf(p + 1 - x)) % d]++;
        }
        store(hold);
        return p - 2;
    }

    public int unit(int hold, int c, int k) {
        if (!isHold(hold)) {
            return UNKNOWN;
        }
        if (c < -GREATEST_FACTOR || c > GREATEST_FACTOR) {
            return OUTSIDE;
        }
        Arrays.fill(work, 0);
        work[Math.floorMod(k, d)] = c;
        return store(hold);
    }

    public int join(int hold, int way, int one, int two) {
        if (!isHold(hold) || !isHold(one) || !isHold(two)) {
            return UNKNOWN;
        }
        if (way < 0 || way > 2) {
            return OUTSIDE;
        }
        if (way == 2) {
            multiply(holds[one], holds[two], 1);
        } else {
            add(holds[one], holds[two], way == 0 ? 1 : -1);
        }
        return store(hold);
    }

    public int turn(int hold, int other, int t) {
        if (!isHold(hold) || !isHold(other)) {
            return UNKNOWN;
        }
        if (sharesDivisor(t)) {
            return OUTSIDE;
        }
        int step = Math.floorMod(t, d);
        Arrays.fill(work, 0);
        for (int i = 0; i < phi; i++) {
            work[i * step % d] += holds[other][i];
        }
        return store(hold);
    }

    public int at(int hold, int i) {
        if (!isHold(hold) || i < 0 || i >= phi) {
            return LEAST_INT;
        }
        return holds[hold][i];
    }

    public int same(int one, int two) {
        if (!isHold(one) || !isHold(two)) {
            return UNKNOWN;
        }
        for (int i = 0; i < phi; i++) {
            if (holds[one][i] != holds[two][i]) {
                return 0;
            }
        }
        return 1;
    }

    public long size(int hold) {
        if (!isHold(hold)) {
            return LEAST_LONG;
        }
        multiply(holds[hold], holds[hold], d - 1);
        reduce();
        for (int i = 1; i < phi; i++) {
            if (work[i] != 0) {
                return LEAST_LONG;
            }
        }
        return work[0];
    }

    // ---- equations, signs

    public int solutions(int a, int b, int c) {
        int first = Math.floorMod(a, p);
        int second = Math.floorMod(b, p);
        int whole = Math.floorMod(c, p);
        Arrays.fill(timesOf, 0);
        for (int x = 0; x < p; x++) {
            timesOf[first * likePower(x) % p]++;
        }
        int pairs = 0;
        for (int y = 0; y < p; y++) {
            pairs += timesOf[Math.floorMod(whole - second * likePower(y), p)];
        }
        return pairs;
    }

    public long rows(int k) {
        if (k < 0 || k > LONGEST_ROW) {
            return OUTSIDE;
        }
        // A row times a rest of class 0 is again such a row, so that how many rows come to a rest
        // depends on the rest's class alone.
        Arrays.fill(rowsOfClass, 0);
        long toZero = 1;
        for (int length = 1; length <= k; length++) {
            for (int c = 0; c < d; c++) {
                longerOfClass[c] = lengthened(toZero, powerOf[c]);
            }
            toZero = lengthened(toZero, 0);
            System.arraycopy(longerOfClass, 0, rowsOfClass, 0, d);
        }
        return toZero;
    }

    public int over(int set, int e, int t) {
        if (!isSet(set)) {
            return LEAST_INT;
        }
        if (!isSign(e)) {
            return LEAST_INT;
        }
        fillSigns(set, e);
        return agreement(Math.floorMod(t, p));
    }

    public int peak(int set, int e) {
        if (!isSet(set)) {
            return UNKNOWN;
        }
        if (!isSign(e)) {
            return OUTSIDE;
        }
        fillSigns(set, e);
        int greatest = 0;
        // The signs stay as they are when the rests are multiplied by one of class 0: one shift of
        // each class stands for all.
        for (int c = 0; c < d; c++) {
            greatest = Math.max(greatest, Math.abs(agreement(powerOf[c])));
        }
        return greatest;
    }

    public int even(int set) {
        if (!isSet(set)) {
            return UNKNOWN;
        }
        fillSigns(set, -1);
        int often = differences(powerOf[0]);
        // As for the shifts of peak: one difference of each class stands for all.
        for (int c = 1; c < d; c++) {
            if (differences(powerOf[c]) != often) {
                return NONE;
            }
        }
        return often;
    }

    public int classes(int way) {
        if (way < 0 || way > 1) {
            return OUTSIDE;
        }
        if (p % 4 != 3 || p == 3) {
            return NOT;
        }
        return way == 0 ? classNumberBySums() : classNumberByForms();
    }

    public int count(int what) {
        switch (what) {
            case 0:
                return p;
            case 1:
                return root;
            case 2:
                return d;
            case 3:
                return phi;
            default:
                return OUTSIDE;
        }
    }

    // ---- prime and degree

    private void setPrime(int newPrime) {
        p = newPrime;
        root = leastRoot();
        indexOf[0] = NONE;
        int power = 1;
        for (int k = 0; k < p - 1; k++) {
            powerOf[k] = power;
            indexOf[power] = k;
            power = power * root % p;
        }
        setDegree(2);
    }

    private void setDegree(int newDegree) {
        d = newDegree;
        phi = 0;
        for (int k = 1; k <= d; k++) {
            if (!sharesDivisor(k)) {
                phi++;
            }
        }
        for (int hold = 0; hold < HOLDS; hold++) {
            Arrays.fill(holds[hold], 0);
        }
    }

    private static boolean isPrime(int n) {
        for (int q = 2; q < n; q++) {
            if (n % q == 0) {
                return false;
            }
        }
        return n > 2;
    }

    private int leastRoot() {
        for (int g = 2; g < p; g++) {
            if (hasAllPowers(g)) {
                return g;
            }
        }
        return 1;
    }

    private boolean hasAllPowers(int g) {
        int power = g;
        for (int k = 1; k < p - 1; k++) {
            if (power == 1) {
                return false;
            }
            power = power * g % p;
        }
        return true;
    }

    /** Whether t and the degree have a common divisor above 1. */
    private boolean sharesDivisor(int t) {
        for (int q = 2; q <= d; q++) {
            if (d % q == 0 && t % q == 0) {
                return true;
            }
        }
        return false;
    }

    // ---- what calls may name

    private static boolean isHold(int hold) {
        return hold >= 0 && hold < HOLDS;
    }

    private boolean isClass(int i) {
        return i >= 0 && i < d;
    }

    private boolean isSet(int set) {
        return set >>> d == 0;
    }

    private static boolean isSign(int e) {
        return e == 1 || e == -1;
    }

    /** The class of a rest that is not 0. */
    private int classOf(int x) {
        return indexOf[x % p] % d;
    }

    // ---- numbers at work: row work tells how often each power of z below z^d is taken

    private void add(int[] one, int[] two, int sign) {
        Arrays.fill(work, 0);
        for (int i = 0; i < phi; i++) {
            work[i] = (long) one[i] + (long) sign * two[i];
        }
    }

    /** One number times another, of which z becomes z^step. */
    private void multiply(int[] one, int[] two, int step) {
        Arrays.fill(work, 0);
        for (int i = 0; i < phi; i++) {
            for (int j = 0; j < phi; j++) {
                work[(i + j * step) % d] += (long) one[i] * two[j];
            }
        }
    }

    private void reduce() {
        for (int high = d - 1; high >= phi; high--) {
            for (int i = 0; i < phi; i++) {
                work[high - phi + i] -= work[high] * RELATIONS[(d - 1) * MOST_COEFFICIENTS + i];
            }
            work[high] = 0;
        }
    }

    /** A hold becomes what stands in work, if its coefficients keep to their bounds. */
    private int store(int hold) {
        reduce();
        for (int i = 0; i < phi; i++) {
            if (work[i] < -BOUND || work[i] > BOUND) {
                return GREAT;
            }
        }
        for (int i = 0; i < phi; i++) {
            holds[hold][i] = (int) work[i];
        }
        return 1;
    }

    // ---- equations and signs at work

    /** x^d as a rest. */
    private int likePower(int x) {
        return x == 0 ? 0 : powerOf[indexOf[x] * d % (p - 1)];
    }

    /** How many rows that are longer by one come to s, from those of rowsOfClass and toZero. */
    private long lengthened(long toZero, int s) {
        long all = 0;
        int inClass = (p - 1) / d;
        for (int i = 0; i < inClass; i++) {
            int before = s - powerOf[i * d];
            all += before == 0 ? toZero : rowsOfClass[classOf(before + p)];
        }
        return all;
    }

    private void fillSigns(int set, int e) {
        signOf[0] = e;
        for (int x = 1; x < p; x++) {
            signOf[x] = (set >> classOf(x) & 1) == 1 ? 1 : -1;
        }
    }

    /** The signs of all x and x + t, one times the other, together. */
    private int agreement(int t) {
        int all = 0;
        for (int x = 0; x < p; x++) {
            all += signOf[x] * signOf[(x + t) % p];
        }
        return all;
    }

    /** How often r is the difference of two rests whose sign is 1. */
    private int differences(int r) {
        int often = 0;
        for (int x = 0; x < p; x++) {
            if (signOf[x] == 1 && signOf[(x + r) % p] == 1) {
                often++;
            }
        }
        return often;
    }

    private int classNumberBySums() {
        int all = 0;
        for (int x = 1; x < p; x++) {
            all += indexOf[x] % 2 == 0 ? x : -x;
        }
        return all / -p;
    }

    private int classNumberByForms() {
        int forms = 0;
        for (int u = 1; u <= GREATEST_FIRST_OF_FORM; u++) {
            for (int v = -u; v <= u; v++) {
                if (isForm(u, v)) {
                    forms++;
                }
            }
        }
        return forms;
    }

    private boolean isForm(int u, int v) {
        int product = v * v + p;
        if (product % (4 * u) != 0) {
            return false;
        }
        int w = product / (4 * u);
        boolean atEdge = v == u || v == -u || u == w;
        return u <= w && (v >= 0 || !atEdge);
    }
}
