/** Promises 13 to 18: solutions, rows, over, peak, even, classes. */
public final class EquationsTest {
    private static final Checks CHECKS = new Checks();
    private static final int[] WHOLE = {Integer.MIN_VALUE, -400, -1, 0, 1, 2, 199, 1000003, Integer.MAX_VALUE};
    private static final int[] PRIMES = {3, 5, 7, 11, 13, 37, 61, 67, 73, 199};

    public static void main(String[] args) {
        for (int p : PRIMES) {
            for (int d = 1; d <= 12; d++) {
                if ((p - 1) % d == 0) {
                    solutions(Given.of(p, d), Reference.of(p, d));
                    rows(Given.of(p, d), Reference.of(p, d));
                    for (int set = 0; set < 1 << d; set += d > 5 ? 37 : 1) {
                        signs(Given.of(p, d), Reference.of(p, d), set, 1);
                        signs(Given.of(p, d), Reference.of(p, d), set, -1);
                    }
                    wholeSets(Given.of(p, d), Reference.of(p, d));
                    wrongSets(Given.of(p, d), Reference.of(p, d));
                }
            }
        }
        knownRows();
        manySolutions();
        knownClassNumbers();
        classNumbers();
        CHECKS.end("EquationsTest");
    }

    private static String now(Reference r) {
        return "P " + r.p + " d " + r.d + " ";
    }

    private static void solutions(TurningSums x, Reference r) {
        String now = now(r);
        for (int a = -2; a <= 3; a++) {
            for (int c = -1; c <= 3; c++) {
                solutionsOf(now, x, r, a, 2, c);
                solutionsOf(now, x, r, 1, a, c);
                solutionsOf(now, x, r, a, r.p, c);
                solutionsOf(now, x, r, -r.p, a, c);
            }
        }
        for (int i = 0; i < WHOLE.length; i++) {
            int b = WHOLE[(i + 4) % WHOLE.length];
            int c = WHOLE[(i + 7) % WHOLE.length];
            solutionsOf(now, x, r, WHOLE[i], b, c);
            solutionsOf(now, x, r, WHOLE[i], WHOLE[i], WHOLE[i]);
        }
        CHECKS.due(now + "solutions(0, 0, 0)", x.solutions(0, 0, 0), r.p * r.p);
        CHECKS.due(now + "solutions(0, 0, 1)", x.solutions(0, 0, 1), 0);
        nothingChanged(now, x, r);
    }

    private static void solutionsOf(String now, TurningSums x, Reference r, int a, int b, int c) {
        CHECKS.due(now + "solutions(" + a + ", " + b + ", " + c + ")", x.solutions(a, b, c), r.solutions(a, b, c));
    }

    /** All pairs have some sum. */
    private static void manySolutions() {
        TurningSums x = new TurningSums();
        x.prime(97);
        x.degree(12);
        int all = 0;
        for (int c = 0; c < 97; c++) {
            all += x.solutions(5, -7, c);
        }
        CHECKS.due("all solutions of P 97, d 12", all, 97 * 97);
    }

    private static void rows(TurningSums x, Reference r) {
        String now = now(r);
        for (int k = -2; k <= 8; k++) {
            CHECKS.due(now + "rows(" + k + ")", x.rows(k), r.rows(k));
        }
        CHECKS.due(now + "rows(least)", x.rows(Integer.MIN_VALUE), -3);
        CHECKS.due(now + "rows(greatest)", x.rows(Integer.MAX_VALUE), -3);
        CHECKS.due(now + "rows(0)", x.rows(0), 1);
        CHECKS.due(now + "rows(1)", x.rows(1), 0);
        nothingChanged(now, x, r);
    }

    private static void knownRows() {
        TurningSums x = new TurningSums();
        CHECKS.due("P 13, d 2: rows(2)", x.rows(2), 6);
        x.prime(199);
        x.degree(1);
        // Six rests, none of them 0, that add to 0: (198^6 + 198) / 199.
        CHECKS.due("P 199, d 1: rows(6)", x.rows(6), 302787585738L);
    }

    private static void signs(TurningSums x, Reference r, int set, int e) {
        String now = now(r);
        String with = "(" + set + ", " + e;
        CHECKS.due(now + "even(" + set + ")", x.even(set), r.even(set));
        CHECKS.due(now + "peak" + with + ")", x.peak(set, e), r.peak(set, e));
        for (int t = -2; t <= r.p; t += r.d > 5 ? 3 : 1) {
            CHECKS.due(now + "over" + with + ", " + t + ")", x.over(set, e, t), r.over(set, e, t));
        }
        for (int t : WHOLE) {
            CHECKS.due(now + "over" + with + ", " + t + ")", x.over(set, e, t), r.over(set, e, t));
        }
        CHECKS.due(now + "over" + with + ", 0)", x.over(set, e, 0), r.p);
        nothingChanged(now, x, r);
    }

    private static void wholeSets(TurningSums x, Reference r) {
        String now = now(r);
        int all = (1 << r.d) - 1;
        CHECKS.due(now + "even of all classes", x.even(all), r.p - 2);
        CHECKS.due(now + "even of no class", x.even(0), 0);
        CHECKS.due(now + "peak of all classes", x.peak(all, 1), r.p);
    }

    private static void wrongSets(TurningSums x, Reference r) {
        String now = now(r);
        for (int set : new int[] {1 << r.d, (2 << r.d) - 1, -1, Integer.MIN_VALUE, 1 << 30, 1 << 12}) {
            CHECKS.due(now + "over(" + set + ", 1, 1)", x.over(set, 1, 1), Reference.LEAST_INT);
            CHECKS.due(now + "peak(" + set + ", 1)", x.peak(set, 1), -2);
            CHECKS.due(now + "peak(" + set + ", 0)", x.peak(set, 0), -2);
            CHECKS.due(now + "even(" + set + ")", x.even(set), -2);
        }
        for (int e : new int[] {Integer.MIN_VALUE, -2, 0, 2, 3, Integer.MAX_VALUE}) {
            CHECKS.due(now + "over(1, " + e + ", 1)", x.over(1, e, 1), Reference.LEAST_INT);
            CHECKS.due(now + "peak(1, " + e + ")", x.peak(1, e), -3);
        }
        nothingChanged(now, x, r);
    }

    private static void nothingChanged(String now, TurningSums x, Reference r) {
        for (int what = 0; what <= 3; what++) {
            CHECKS.due(now + "afterwards count(" + what + ")", x.count(what), r.count(what));
        }
        for (int hold = 0; hold < 6; hold++) {
            CHECKS.due(now + "afterwards size(" + hold + ")", x.size(hold), 0);
        }
        CHECKS.due(now + "afterwards rest(-1, 0)", x.rest(-1, 0), (r.p - 1) / 2);
    }

    private static void knownClassNumbers() {
        int[] known = {7, 1, 11, 1, 19, 1, 23, 3, 31, 3, 43, 1, 47, 5, 59, 3, 67, 1, 71, 7, 79, 5, 83, 3, 103, 5,
            107, 3, 127, 5, 131, 5, 139, 3, 151, 7, 163, 1, 167, 11, 179, 5, 191, 13, 199, 9};
        TurningSums x = new TurningSums();
        for (int i = 0; i < known.length; i += 2) {
            x.prime(known[i]);
            CHECKS.due("P " + known[i] + " classes(0)", x.classes(0), known[i + 1]);
            CHECKS.due("P " + known[i] + " classes(1)", x.classes(1), known[i + 1]);
            x.degree(1);
            CHECKS.due("P " + known[i] + " d 1 classes(0)", x.classes(0), known[i + 1]);
            CHECKS.due("P " + known[i] + " d 1 classes(1)", x.classes(1), known[i + 1]);
        }
    }

    private static void classNumbers() {
        Reference r = new Reference();
        for (int p = 3; p < 200; p++) {
            if (r.prime(p) < 0) {
                continue;
            }
            TurningSums x = Given.of(p, 2);
            for (int way : new int[] {Integer.MIN_VALUE, -1, 0, 1, 2, Integer.MAX_VALUE}) {
                CHECKS.due("P " + r.p + " classes(" + way + ")", x.classes(way), r.classes(way));
            }
        }
        TurningSums x = Given.of(3, 2);
        CHECKS.due("P 3 classes(0)", x.classes(0), -4);
        CHECKS.due("P 3 classes(1)", x.classes(1), -4);
        CHECKS.due("P 3 classes(2)", x.classes(2), -3);
        x.prime(5);
        CHECKS.due("P 5 classes(1)", x.classes(1), -4);
        CHECKS.due("P 5 classes(-1)", x.classes(-1), -3);
    }
}
