/** Promises 6 to 12: sum, unit, join, turn, at, same, size. */
public final class NumbersTest {
    private static final Checks CHECKS = new Checks();
    private static final int[] WRONG_HOLDS = {Integer.MIN_VALUE, -1, 6, 7, Integer.MAX_VALUE};
    private static final int[] EXPONENTS = {
        Integer.MIN_VALUE, -25, -12, -11, -7, -5, -2, -1, 0, 1, 2, 3, 4, 5, 6, 7, 8, 9, 10, 11, 12, 13, 35,
        Integer.MAX_VALUE
    };
    /** For each degree a prime that has it. */
    private static final int[] PRIME_OF = {0, 3, 5, 7, 13, 31, 37, 43, 41, 73, 61, 67, 157};

    public static void main(String[] args) {
        for (int d = 1; d <= 12; d++) {
            units(d);
            sums(d);
            turns(d);
        }
        allSums();
        joins();
        joinsOverThemselves();
        bounds();
        turnBeyondBounds();
        refusals();
        sames();
        sizes();
        greatSizes();
        CHECKS.end("NumbersTest");
    }

    private static void same(String when, TurningSums x, Reference r) {
        for (int hold = 0; hold < 6; hold++) {
            for (int i = -1; i <= r.phi(); i++) {
                CHECKS.due(when + ": at(" + hold + ", " + i + ")", x.at(hold, i), r.at(hold, i));
            }
            CHECKS.due(when + ": size(" + hold + ")", x.size(hold), r.size(hold));
        }
    }

    private static void units(int d) {
        for (int c : new int[] {-1000, -999, -1, 0, 1, 2, 1000}) {
            for (int k : EXPONENTS) {
                TurningSums x = Given.of(PRIME_OF[d], d);
                Reference r = Reference.of(PRIME_OF[d], d);
                int hold = Math.floorMod(k, 6);
                x.sum(hold, 1, 1);
                r.sum(hold, 1, 1);
                String call = "d " + d + " unit(" + hold + ", " + c + ", " + k + ")";
                CHECKS.due(call, x.unit(hold, c, k), r.unit(hold, c, k));
                same(call, x, r);
            }
        }
        TurningSums x = Given.of(PRIME_OF[d], d);
        Reference r = Reference.of(PRIME_OF[d], d);
        for (int c : new int[] {Integer.MIN_VALUE, -1001, 1001, Integer.MAX_VALUE}) {
            CHECKS.due("unit(0, " + c + ", 1)", x.unit(0, c, 1), -3);
            CHECKS.due("unit(6, " + c + ", 1)", x.unit(6, c, 1), -2);
        }
        same("refused units", x, r);
    }

    private static void sums(int d) {
        for (int a : EXPONENTS) {
            for (int b : EXPONENTS) {
                TurningSums x = Given.of(PRIME_OF[d], d);
                Reference r = Reference.of(PRIME_OF[d], d);
                int hold = Math.floorMod(a + b, 6);
                x.unit(hold, 1000, d - 1);
                String call = "d " + d + " sum(" + hold + ", " + a + ", " + b + ")";
                CHECKS.due(call, x.sum(hold, a, b), PRIME_OF[d] - 2);
                r.sum(hold, a, b);
                same(call, x, r);
            }
        }
        TurningSums x = Given.of(PRIME_OF[d], d);
        Reference r = Reference.of(PRIME_OF[d], d);
        for (int hold : WRONG_HOLDS) {
            CHECKS.due("sum(" + hold + ", 1, 1)", x.sum(hold, 1, 1), -2);
        }
        same("refused sums", x, r);
    }

    /** Every prime and degree once, and that a sum of three turning signs has the size P. */
    private static void allSums() {
        for (int p = 3; p < 200; p += 2) {
            for (int d = 1; Reference.isOddPrime(p) && d <= 12; d++) {
                if ((p - 1) % d != 0) {
                    continue;
                }
                TurningSums x = Given.of(p, d);
                Reference r = Reference.of(p, d);
                for (int hold = 0; hold < 6; hold++) {
                    String call = "P " + p + " d " + d + " sum(" + hold + ", 1, " + hold + ")";
                    CHECKS.due(call, x.sum(hold, 1, hold), r.sum(hold, 1, hold));
                }
                same("P " + p + " d " + d, x, r);
                if (d > 2) {
                    CHECKS.due("P " + p + " d " + d + " size of sum (1, 1)", x.size(1), p);
                }
            }
        }
    }

    private static void turns(int d) {
        for (int t : EXPONENTS) {
            for (int[] call : new int[][] {{2, 0}, {3, 1}, {1, 1}}) {
                TurningSums x = Given.of(PRIME_OF[d], d);
                Reference r = Reference.of(PRIME_OF[d], d);
                x.sum(0, 1, 1);
                r.sum(0, 1, 1);
                x.unit(1, 9, 2);
                r.unit(1, 9, 2);
                x.join(1, 0, 1, 0);
                r.join(1, 0, 1, 0);
                String told = "d " + d + " turn(" + call[0] + ", " + call[1] + ", " + t + ")";
                CHECKS.due(told, x.turn(call[0], call[1], t), r.turn(call[0], call[1], t));
                same(told, x, r);
            }
        }
        TurningSums x = Given.of(PRIME_OF[d], d);
        Reference r = Reference.of(PRIME_OF[d], d);
        for (int hold : WRONG_HOLDS) {
            CHECKS.due("d " + d + " turn(" + hold + ", 0, 0)", x.turn(hold, 0, 0), -2);
            CHECKS.due("d " + d + " turn(0, " + hold + ", 1)", x.turn(0, hold, 1), -2);
        }
        same("refused turns", x, r);
    }

    private static void joins() {
        for (int d = 1; d <= 12; d++) {
            for (int way = -1; way <= 3; way++) {
                for (int n = 0; n < 16; n++) {
                    joined(d, way, n / 4, n % 4);
                }
            }
        }
    }

    private static void joined(int d, int way, int one, int two) {
        TurningSums x = Given.of(PRIME_OF[d], d);
        Reference r = Reference.of(PRIME_OF[d], d);
        for (int hold = 0; hold < 4; hold++) {
            x.sum(hold, 1, hold);
            r.sum(hold, 1, hold);
        }
        String call = "d " + d + " join(5, " + way + ", " + one + ", " + two + ")";
        CHECKS.due(call, x.join(5, way, one, two), r.join(5, way, one, two));
        same(call, x, r);
    }

    private static void joinsOverThemselves() {
        for (int d = 1; d <= 12; d++) {
            for (int way = 0; way <= 2; way++) {
                TurningSums x = Given.of(PRIME_OF[d], d);
                Reference r = Reference.of(PRIME_OF[d], d);
                for (int[] call : new int[][] {{0, 0, 1}, {1, 0, 1}, {0, 0, 0}, {1, 0, 1}}) {
                    x.sum(1, 1, 2);
                    r.sum(1, 1, 2);
                    x.unit(2, 3, 1);
                    r.unit(2, 3, 1);
                    x.join(0, 0, 1, 2);
                    r.join(0, 0, 1, 2);
                    String told = "d " + d + " join(" + call[0] + ", " + way + ", " + call[1] + ", " + call[2] + ")";
                    CHECKS.due(told, x.join(call[0], way, call[1], call[2]), r.join(call[0], way, call[1], call[2]));
                    same(told, x, r);
                }
            }
        }
    }

    /** Coefficients may be 100000000 and -100000000, and not one more. */
    private static void bounds() {
        TurningSums x = Given.of(13, 12);
        x.unit(0, 1000, 0);
        x.join(0, 2, 0, 0);
        x.unit(1, 100, 1);
        CHECKS.due("100000000 z", x.join(2, 2, 0, 1), 1);
        CHECKS.due("100000000 z: at", x.at(2, 1), 100000000);
        CHECKS.due("its size", x.size(2), 10000000000000000L);
        x.unit(3, 1, 1);
        CHECKS.due("one more", x.join(2, 0, 2, 3), -5);
        CHECKS.due("one more: at", x.at(2, 1), 100000000);
        CHECKS.due("one more elsewhere", x.join(4, 0, 3, 2), -5);
        CHECKS.due("one more elsewhere: at", x.at(4, 1), 0);
        CHECKS.due("one less", x.join(4, 1, 2, 3), 1);
        CHECKS.due("one less: at", x.at(4, 1), 99999999);
        CHECKS.due("0 less it", x.join(2, 1, 5, 2), 1);
        CHECKS.due("0 less it: at", x.at(2, 1), -100000000);
        CHECKS.due("one below", x.join(2, 1, 2, 3), -5);
        CHECKS.due("one below: at", x.at(2, 1), -100000000);
        CHECKS.due("times itself", x.join(2, 2, 2, 2), -5);
        CHECKS.due("times itself: at", x.at(2, 1), -100000000);
        CHECKS.due("greatest product refused in another coefficient", x.join(0, 2, 2, 0), -5);
        CHECKS.due("no way comes before too great", x.join(2, 3, 2, 2), -3);
        CHECKS.due("no hold comes before no way", x.join(2, 3, 2, 6), -2);
    }

    /** A turn adds up coefficients where a power is reduced: then it may be too great. */
    private static void turnBeyondBounds() {
        int great = 0;
        for (int t = -12; t <= 12; t++) {
            TurningSums x = Given.of(67, 11);
            Reference r = Reference.of(67, 11);
            boundAdded(x, r, 100, 1);
            boundAdded(x, r, -100, 9);
            int due = r.turn(3, 2, t);
            CHECKS.due("turn(3, 2, " + t + ")", x.turn(3, 2, t), due);
            same("turn(3, 2, " + t + ")", x, r);
            great += due == -5 ? 1 : 0;
        }
        CHECKS.due("some turns are too great", great > 0 ? 1 : 0, 1);
    }

    /** Hold 1 becomes c 1000000 z^k, and is added to hold 2. */
    private static void boundAdded(TurningSums x, Reference r, int c, int k) {
        x.unit(0, 1000, 0);
        r.unit(0, 1000, 0);
        x.unit(1, c, k);
        r.unit(1, c, k);
        x.join(0, 2, 0, 0);
        r.join(0, 2, 0, 0);
        x.join(1, 2, 0, 1);
        r.join(1, 2, 0, 1);
        x.join(2, 0, 2, 1);
        r.join(2, 0, 2, 1);
    }

    private static void refusals() {
        TurningSums x = Given.of(13, 4);
        Reference r = Reference.of(13, 4);
        for (int hold = 0; hold < 6; hold++) {
            x.unit(hold, 5, hold);
            r.unit(hold, 5, hold);
        }
        for (int hold : WRONG_HOLDS) {
            CHECKS.due("unit(" + hold + ", 1, 1)", x.unit(hold, 1, 1), -2);
            CHECKS.due("join(" + hold + ", 0, 1, 1)", x.join(hold, 0, 1, 1), -2);
            CHECKS.due("join(0, 0, " + hold + ", 1)", x.join(0, 0, hold, 1), -2);
            CHECKS.due("join(0, 0, 1, " + hold + ")", x.join(0, 0, 1, hold), -2);
            CHECKS.due("join(0, 9, 1, " + hold + ")", x.join(0, 9, 1, hold), -2);
            CHECKS.due("turn(" + hold + ", 0, 1)", x.turn(hold, 0, 1), -2);
            CHECKS.due("turn(0, " + hold + ", 2)", x.turn(0, hold, 2), -2);
            CHECKS.due("at(" + hold + ", 0)", x.at(hold, 0), Reference.LEAST_INT);
            CHECKS.due("at(0, " + hold + ")", x.at(0, hold), Reference.LEAST_INT);
            CHECKS.due("same(" + hold + ", 0)", x.same(hold, 0), -2);
            CHECKS.due("same(0, " + hold + ")", x.same(0, hold), -2);
            CHECKS.due("same(" + hold + ", " + hold + ")", x.same(hold, hold), -2);
            CHECKS.due("size(" + hold + ")", x.size(hold), Reference.LEAST_LONG);
        }
        for (int way : new int[] {Integer.MIN_VALUE, -1, 3, Integer.MAX_VALUE}) {
            CHECKS.due("join(0, " + way + ", 1, 1)", x.join(0, way, 1, 1), -3);
        }
        same("refused calls", x, r);
    }

    private static void sames() {
        TurningSums x = Given.of(73, 9);
        x.unit(0, 4, 8);
        x.unit(1, -4, 2);
        x.unit(2, -4, 5);
        CHECKS.due("z^8 is another than -z^2", x.same(0, 1), 0);
        x.join(3, 0, 1, 2);
        CHECKS.due("z^8 is -z^5 - z^2", x.same(0, 3), 1);
        CHECKS.due("and the other way round", x.same(3, 0), 1);
        CHECKS.due("unlike in the last coefficient alone", x.same(1, 3), 0);
        CHECKS.due("a hold is like itself", x.same(2, 2), 1);
        CHECKS.due("4 and 5 are 0", x.same(4, 5), 1);
    }

    private static void sizes() {
        for (int d = 1; d <= 12; d++) {
            int not = 0;
            for (int c = -7; c <= 7; c++) {
                not += sizesOf(d, c);
            }
            boolean always = d <= 4 || d == 6;
            CHECKS.due("d " + d + ": some sizes are no whole numbers", not > 0 ? 1 : 0, always ? 0 : 1);
        }
    }

    /** How many of c + 3 z^k have no whole size. */
    private static int sizesOf(int d, int c) {
        TurningSums x = Given.of(PRIME_OF[d], d);
        Reference r = Reference.of(PRIME_OF[d], d);
        int not = 0;
        for (int k = 0; k < d; k++) {
            x.unit(0, c, 0);
            r.unit(0, c, 0);
            x.unit(1, 3, k);
            r.unit(1, 3, k);
            x.join(2, 0, 0, 1);
            r.join(2, 0, 0, 1);
            long due = r.size(2);
            CHECKS.due("d " + d + " size of " + c + " + 3 z^" + k, x.size(2), due);
            not += due == Reference.LEAST_LONG ? 1 : 0;
        }
        same("d " + d + " sizes change nothing", x, r);
        return not;
    }

    /** Sizes go far beyond what a hold may have. */
    private static void greatSizes() {
        for (int d = 1; d <= 12; d++) {
            TurningSums x = Given.of(PRIME_OF[d], d);
            Reference r = Reference.of(PRIME_OF[d], d);
            for (int k = 0; k < r.phi(); k++) {
                boundAdded(x, r, k % 3 == 1 ? -100 : 100, k);
                CHECKS.due("d " + d + " size of 100000000 z^" + k, x.size(1), 10000000000000000L);
                CHECKS.due("d " + d + " size of bounds up to z^" + k, x.size(2), r.size(2));
            }
            same("d " + d + " great sizes", x, r);
        }
    }
}
