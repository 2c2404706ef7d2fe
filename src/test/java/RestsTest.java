/** Promises 1 to 5 and 19: a new object, prime, degree, rest, meeting, count. */
public final class RestsTest {
    private static final Checks CHECKS = new Checks();
    private static final int[] EDGES = {
        Integer.MIN_VALUE, Integer.MIN_VALUE + 1, -200, -199, -13, -1, 0, 1, 12, 13, 14, 198, 199, 200,
        Integer.MAX_VALUE - 1, Integer.MAX_VALUE
    };

    public static void main(String[] args) {
        newObject();
        primes();
        refusedPrimes();
        degrees();
        tellingMakesAllZero();
        refusalsChangeNothing();
        rests();
        meetings();
        CHECKS.end("RestsTest");
    }

    private static void newObject() {
        TurningSums x = new TurningSums();
        CHECKS.due("new count(0)", x.count(0), 13);
        CHECKS.due("new count(1)", x.count(1), 2);
        CHECKS.due("new count(2)", x.count(2), 2);
        CHECKS.due("new count(3)", x.count(3), 1);
        for (int hold = 0; hold < 6; hold++) {
            CHECKS.due("new at(" + hold + ", 0)", x.at(hold, 0), 0);
            CHECKS.due("new at(" + hold + ", 1)", x.at(hold, 1), Reference.LEAST_INT);
            CHECKS.due("new size(" + hold + ")", x.size(hold), 0);
        }
        CHECKS.due("new rest(11, 0)", x.rest(11, 0), 7);
        TurningSums other = new TurningSums();
        other.unit(0, 5, 0);
        other.prime(7);
        CHECKS.due("an object keeps to itself", x.at(0, 0) + x.count(0), 13);
    }

    private static void primes() {
        TurningSums x = new TurningSums();
        int[] known = {3, 2, 5, 2, 7, 3, 11, 2, 13, 2, 17, 3, 19, 2, 23, 5, 41, 6, 71, 7, 73, 5, 191, 19, 193, 5, 199, 3};
        for (int i = 0; i < known.length; i += 2) {
            CHECKS.due("prime(" + known[i] + ")", x.prime(known[i]), known[i + 1]);
        }
        Reference r = new Reference();
        r.prime(199);
        for (int p = -5; p <= 260; p++) {
            if (p % 40 == 0) {
                x = new TurningSums();
                r = new Reference();
            }
            CHECKS.due("prime(" + p + ")", x.prime(p), r.prime(p));
            counts("after prime(" + p + ")", x, r);
        }
    }

    private static void refusedPrimes() {
        TurningSums x = new TurningSums();
        for (int p : new int[] {Integer.MIN_VALUE, -13, -3, -1, 0, 1, 2, 4, 9, 25, 49, 121, 169, 187, 198, 200, 211,
            46337, 2147483629, Integer.MAX_VALUE}) {
            CHECKS.due("prime(" + p + ")", x.prime(p), -3);
        }
        CHECKS.due("P stays", x.count(0), 13);
    }

    private static void degrees() {
        int[] phis = {0, 1, 1, 2, 2, 4, 2, 6, 4, 6, 4, 10, 4};
        for (int p = 3; p < 200; p += 2) {
            if (!Reference.isOddPrime(p)) {
                continue;
            }
            TurningSums x = new TurningSums();
            Reference r = new Reference();
            x.prime(p);
            r.prime(p);
            for (int d = -3; d <= 14; d++) {
                boolean fits = d >= 1 && d <= 12 && (p - 1) % d == 0;
                CHECKS.due("P " + p + " degree(" + d + ")", x.degree(d), fits ? phis[d] : -3);
                r.degree(d);
                counts("P " + p + " after degree(" + d + ")", x, r);
            }
            for (int d : EDGES) {
                CHECKS.due("P " + p + " degree(" + d + ")", x.degree(d), r.degree(d));
            }
            x.degree(1);
            CHECKS.due("P " + p + " told again", x.prime(p), r.prime(p));
            counts("P " + p + " told again has d 2", x, r);
        }
    }

    private static void counts(String when, TurningSums x, Reference r) {
        for (int what = 0; what <= 3; what++) {
            CHECKS.due(when + " count(" + what + ")", x.count(what), r.count(what));
        }
        for (int what : new int[] {-1, 4, 5, Integer.MIN_VALUE, Integer.MAX_VALUE}) {
            CHECKS.due(when + " count(" + what + ")", x.count(what), -3);
        }
    }

    private static void fill(TurningSums x) {
        for (int hold = 0; hold < 6; hold++) {
            x.unit(hold, 7 + hold, 0);
        }
    }

    private static void allHold(String when, TurningSums x, int first, int step) {
        for (int hold = 0; hold < 6; hold++) {
            CHECKS.due(when + ": at(" + hold + ", 0)", x.at(hold, 0), first + step * hold);
            for (int i = 1; i < x.count(3); i++) {
                CHECKS.due(when + ": at(" + hold + ", " + i + ")", x.at(hold, i), 0);
            }
        }
    }

    private static void tellingMakesAllZero() {
        TurningSums x = new TurningSums();
        fill(x);
        x.prime(13);
        allHold("the same P told", x, 0, 0);
        fill(x);
        x.degree(2);
        allHold("the same d told", x, 0, 0);
        x.degree(12);
        for (int hold = 0; hold < 6; hold++) {
            x.unit(hold, 3, hold);
        }
        x.degree(4);
        allHold("another d told", x, 0, 0);
        x.degree(12);
        allHold("d told back", x, 0, 0);
        for (int hold = 0; hold < 6; hold++) {
            x.unit(hold, 3, hold);
        }
        x.prime(37);
        x.degree(12);
        allHold("another P told", x, 0, 0);
    }

    private static void refusalsChangeNothing() {
        TurningSums x = new TurningSums();
        x.degree(6);
        fill(x);
        x.prime(15);
        x.prime(2);
        x.prime(211);
        x.degree(5);
        x.degree(0);
        x.degree(13);
        x.degree(-1);
        allHold("refused P and d", x, 7, 1);
        CHECKS.due("refused P and d: count(0)", x.count(0), 13);
        CHECKS.due("refused P and d: count(2)", x.count(2), 6);
    }

    private static void rests() {
        TurningSums x = new TurningSums();
        CHECKS.due("rest(0, 0)", x.rest(0, 0), -1);
        CHECKS.due("rest(-26, 1)", x.rest(-26, 1), -1);
        CHECKS.due("rest(1, 0)", x.rest(1, 0), 0);
        CHECKS.due("rest(-1, 0)", x.rest(-1, 0), 6);
        CHECKS.due("rest(0, 2) is refused before it is 0", x.rest(0, 2), -3);
        for (int p : new int[] {3, 5, 7, 13, 61, 67, 157, 197, 199}) {
            for (int d = 1; d <= 12; d++) {
                for (int what = -2; (p - 1) % d == 0 && what <= 3; what++) {
                    restsOf(Given.of(p, d), Reference.of(p, d), what);
                }
            }
        }
    }

    private static void restsOf(TurningSums x, Reference r, int what) {
        String now = "P " + r.p + " d " + r.d;
        for (int n = -r.p - 2; n <= r.p + 2; n++) {
            CHECKS.due(now + " rest(" + n + ", " + what + ")", x.rest(n, what), r.rest(n, what));
        }
        for (int n : EDGES) {
            CHECKS.due(now + " rest(" + n + ", " + what + ")", x.rest(n, what), r.rest(n, what));
        }
    }

    private static void meetings() {
        for (int p : new int[] {3, 5, 7, 13, 37, 73, 199}) {
            for (int d = 1; d <= 12; d++) {
                if ((p - 1) % d == 0) {
                    meetingsOf(Given.of(p, d), Reference.of(p, d));
                }
            }
        }
    }

    private static void meetingsOf(TurningSums x, Reference r) {
        String now = "P " + r.p + " d " + r.d;
        int together = 0;
        for (int i = -2; i <= r.d + 1; i++) {
            for (int j = -2; j <= r.d + 1; j++) {
                int got = x.meeting(i, j);
                together += Math.max(0, got);
                CHECKS.due(now + " meeting(" + i + ", " + j + ")", got, r.meeting(i, j));
            }
        }
        CHECKS.due(now + " meetings together", together, r.p - 2);
        for (int i : new int[] {Integer.MIN_VALUE, Integer.MAX_VALUE, r.p}) {
            CHECKS.due(now + " meeting(" + i + ", 0)", x.meeting(i, 0), -2);
            CHECKS.due(now + " meeting(0, " + i + ")", x.meeting(0, i), -2);
        }
    }
}
