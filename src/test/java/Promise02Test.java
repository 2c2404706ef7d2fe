/** Promise 2: prime, and the sentences of the Terms on P, ROOT and what telling P makes 0. */
public final class Promise02Test {
    private static final Checks CHECKS = new Checks();

    public static void main(String[] args) {
        theLeastIs3();
        theGreatestIs199();
        twoIsNotOdd();
        belowThree();
        primesAbove199();
        oddButNoPrime();
        evenNumbers();
        rootIsTheLeast();
        degreeBecomes2();
        allHoldsBecome0();
        alsoWhenPIsToldAgain();
        refusedChangesNothing();
        smallAfterGreat();
        CHECKS.end("Promise 2, prime");
    }

    private static void theLeastIs3() {
        TurningSums x = new TurningSums();
        CHECKS.due("prime(3)", x.prime(3), 2);
        CHECKS.due("P 3: count(0)", x.count(0), 3);
        CHECKS.due("P 3: rest(2, 0)", x.rest(2, 0), 1);
        CHECKS.due("P 3: rest(1, 0)", x.rest(1, 0), 0);
    }

    private static void theGreatestIs199() {
        TurningSums x = new TurningSums();
        CHECKS.due("prime(199)", x.prime(199), 3);
        CHECKS.due("P 199: count(0)", x.count(0), 199);
        CHECKS.due("P 199: rest(198, 0)", x.rest(198, 0), 99);
        CHECKS.due("prime(197)", x.prime(197), 2);
    }

    private static void twoIsNotOdd() {
        CHECKS.refused("prime(2)", x -> x.prime(2), -3);
    }

    private static void belowThree() {
        for (int p : new int[] {1, 0, -1, -2, -3, -13, -199, Given.LEAST, Given.LEAST + 1}) {
            CHECKS.refused("prime(" + p + ")", x -> x.prime(p), -3);
        }
    }

    /** 211 is the next prime, 2147483647 the greatest that an int can tell. */
    private static void primesAbove199() {
        for (int p : new int[] {200, 201, 211, 223, 65537, Given.GREATEST}) {
            CHECKS.refused("prime(" + p + ")", x -> x.prime(p), -3);
        }
    }

    /** Squares of primes have no divisor below their root, 187 and 143 have a great least divisor. */
    private static void oddButNoPrime() {
        for (int p : new int[] {9, 15, 25, 49, 121, 143, 169, 187, 189, 195}) {
            CHECKS.refused("prime(" + p + ")", x -> x.prime(p), -3);
        }
    }

    private static void evenNumbers() {
        for (int p : new int[] {4, 6, 12, 14, 198}) {
            CHECKS.refused("prime(" + p + ")", x -> x.prime(p), -3);
        }
    }

    private static void rootIsTheLeast() {
        int[] known = {3, 2, 5, 2, 7, 3, 11, 2, 13, 2, 17, 3, 23, 5, 31, 3, 41, 6, 71, 7, 73, 5, 97, 5, 109, 6, 151, 6,
            157, 5, 191, 19, 193, 5, 199, 3};
        TurningSums x = new TurningSums();
        for (int i = 0; i < known.length; i += 2) {
            CHECKS.due("prime(" + known[i] + ")", x.prime(known[i]), known[i + 1]);
            CHECKS.due("P " + known[i] + ": count(1)", x.count(1), known[i + 1]);
        }
    }

    private static void degreeBecomes2() {
        for (int p : new int[] {13, 37, 3}) {
            TurningSums x = Given.filled();
            x.prime(p);
            CHECKS.due("prime(" + p + ") after d 12: count(2)", x.count(2), 2);
            CHECKS.due("prime(" + p + ") after d 12: count(3)", x.count(3), 1);
        }
        TurningSums one = Given.of(13, 1);
        one.prime(5);
        CHECKS.due("prime(5) after d 1: count(2)", one.count(2), 2);
        CHECKS.due("prime(5) after d 1: meeting(1, 1)", one.meeting(1, 1), 1);
    }

    private static void allHoldsBecome0() {
        TurningSums x = Given.filled();
        x.prime(37);
        x.degree(12);
        for (int hold = 0; hold < 6; hold++) {
            CHECKS.holds("another P told", x, hold, 0, 0, 0, 0);
        }
    }

    private static void alsoWhenPIsToldAgain() {
        TurningSums x = Given.of(13, 2);
        Given.fill(x);
        x.prime(13);
        for (int hold = 0; hold < 6; hold++) {
            CHECKS.holds("P told again", x, hold, 0);
        }
        TurningSums y = Given.filled();
        y.prime(13);
        y.degree(12);
        for (int hold = 0; hold < 6; hold++) {
            CHECKS.holds("P told again after d 12", y, hold, 0, 0, 0, 0);
        }
    }

    private static void refusedChangesNothing() {
        TurningSums x = Given.of(7, 6);
        Given.fill(x);
        CHECKS.still("P 7, d 6: prime(8)", x, y -> y.prime(8), -3);
        CHECKS.still("P 7, d 6: prime(9)", x, y -> y.prime(9), -3);
        CHECKS.still("P 7, d 6: prime(211)", x, y -> y.prime(211), -3);
    }

    /** Nothing of the greater P is left over. */
    private static void smallAfterGreat() {
        TurningSums x = Given.of(199, 11);
        x.prime(5);
        int[] indices = {-1, 0, 1, 3, 2, -1, 0};
        for (int n = 0; n < indices.length; n++) {
            CHECKS.due("P 5 after 199: rest(" + n + ", 0)", x.rest(n, 0), indices[n]);
        }
        CHECKS.due("P 5 after 199: solutions(1, 1, 0)", x.solutions(1, 1, 0), 9);
        CHECKS.due("P 5 after 199: over(3, 1, 1)", x.over(3, 1, 1), 5);
        CHECKS.due("P 5 after 199: rows(5)", x.rows(5), 2);
    }
}
