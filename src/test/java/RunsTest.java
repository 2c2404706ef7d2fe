/** Long mixed runs of calls, the same each time, each answer held against the document's words done at length. */
public final class RunsTest {
    private static final Checks CHECKS = new Checks();
    private static final int RUNS = 300;
    private static final int CALLS = 512;
    private static final int[] PRIMES = {3, 5, 7, 11, 13, 19, 29, 31, 37, 41, 43, 61, 67, 71, 73, 109, 157, 181, 199};

    private static long seed;

    /** The next number of a fixed row, 0 .. below - 1. */
    private static int pick(int below) {
        seed = seed * 6364136223846793005L + 1442695040888963407L;
        return (int) ((seed >>> 33) % below);
    }

    private static int whole() {
        switch (pick(6)) {
            case 0:
                return (int) (seed >>> 16);
            case 1:
                return pick(2) == 0 ? Integer.MIN_VALUE : Integer.MAX_VALUE;
            default:
                return pick(40) - 15;
        }
    }

    private static int hold() {
        return pick(40) == 0 ? whole() : pick(6);
    }

    private static int sign() {
        return pick(20) == 0 ? whole() : pick(2) * 2 - 1;
    }

    public static void main(String[] args) {
        for (int run = 0; run < RUNS; run++) {
            seed = run;
            TurningSums x = new TurningSums();
            Reference r = new Reference();
            for (int call = 1; call <= CALLS; call++) {
                step("run " + run + ", call " + call + ": ", x, r);
            }
        }
        CHECKS.end("RunsTest");
    }

    private static void step(String at, TurningSums x, Reference r) {
        int kind = pick(200);
        if (kind < 2) {
            int p = pick(3) == 0 ? pick(230) - 10 : PRIMES[pick(PRIMES.length)];
            CHECKS.due(at + "prime(" + p + ")", x.prime(p), r.prime(p));
        } else if (kind < 8) {
            int d = pick(16) - 1;
            CHECKS.due(at + "degree(" + d + ")", x.degree(d), r.degree(d));
        } else if (kind < 110) {
            numbers(at, x, r, pick(4));
        } else if (kind < 170) {
            looks(at, x, r, pick(3));
        } else {
            equations(at, x, r, pick(9));
        }
    }

    private static void numbers(String at, TurningSums x, Reference r, int kind) {
        int hold = hold();
        int one = hold();
        int two = hold();
        int a = whole();
        int b = whole();
        String told = hold + ", " + one + ", " + two + ", " + a + ", " + b;
        switch (kind) {
            case 0:
                CHECKS.due(at + "sum " + told, x.sum(hold, a, b), r.sum(hold, a, b));
                break;
            case 1:
                int c = pick(4) == 0 ? whole() : pick(2003) - 1001;
                CHECKS.due(at + "unit " + told + " c " + c, x.unit(hold, c, b), r.unit(hold, c, b));
                break;
            case 2:
                int way = pick(20) == 0 ? whole() : pick(3);
                CHECKS.due(at + "join " + told + " way " + way, x.join(hold, way, one, two), r.join(hold, way, one, two));
                break;
            default:
                CHECKS.due(at + "turn " + told, x.turn(hold, one, a), r.turn(hold, one, a));
        }
    }

    private static void looks(String at, TurningSums x, Reference r, int kind) {
        int one = hold();
        int two = hold();
        int i = pick(20) == 0 ? whole() : pick(12) - 1;
        switch (kind) {
            case 0:
                CHECKS.due(at + "at(" + one + ", " + i + ")", x.at(one, i), r.at(one, i));
                break;
            case 1:
                CHECKS.due(at + "same(" + one + ", " + two + ")", x.same(one, two), r.same(one, two));
                break;
            default:
                CHECKS.due(at + "size(" + one + ")", x.size(one), r.size(one));
        }
    }

    private static void equations(String at, TurningSums x, Reference r, int kind) {
        int a = whole();
        int b = whole();
        int c = whole();
        int set = pick(10) == 0 ? whole() : pick(1 << r.d);
        int e = sign();
        String told = a + ", " + b + ", " + c + ", set " + set + ", e " + e;
        switch (kind) {
            case 0:
                CHECKS.due(at + "rest " + told, x.rest(a, Math.min(b, 1)), r.rest(a, Math.min(b, 1)));
                break;
            case 1:
                CHECKS.due(at + "meeting " + told, x.meeting(a, b), r.meeting(a, b));
                break;
            case 2:
                CHECKS.due(at + "solutions " + told, x.solutions(a, b, c), r.solutions(a, b, c));
                break;
            case 3:
                int k = pick(9) - 1;
                CHECKS.due(at + "rows(" + k + ")", x.rows(k), r.rows(k));
                break;
            case 4:
                CHECKS.due(at + "over " + told, x.over(set, e, c), r.over(set, e, c));
                break;
            case 5:
                CHECKS.due(at + "peak " + told, x.peak(set, e), r.peak(set, e));
                break;
            case 6:
                CHECKS.due(at + "even " + told, x.even(set), r.even(set));
                break;
            case 7:
                CHECKS.due(at + "classes " + told, x.classes(a & 3), r.classes(a & 3));
                break;
            default:
                CHECKS.due(at + "count " + told, x.count(a), r.count(a));
        }
    }
}
