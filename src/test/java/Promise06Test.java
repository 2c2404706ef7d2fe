/** Promise 6: sum, and the sentence of the Terms on SUM. */
public final class Promise06Test {
    private static final Checks CHECKS = new Checks();

    public static void main(String[] args) {
        allRestsBut0And1AreLookedAt();
        leastPrime();
        exponentsOf0();
        oneExponentOf0();
        exponentsThatAddTo0();
        exponentsBeyondTheDegree();
        exponentsBelow0();
        greatestAndLeastExponents();
        theOtherIs1LessX();
        theOldNumberIsGone();
        firstAndLastHold();
        noSuchHold();
        CHECKS.end("Promise 6, sum");
    }

    private static void allRestsBut0And1AreLookedAt() {
        for (int p : new int[] {3, 5, 13, 197, 199}) {
            TurningSums x = Given.of(p, 1);
            CHECKS.due("P " + p + ": sum(0, 0, 0)", x.sum(0, 0, 0), p - 2);
            CHECKS.holds("P " + p + ", d 1", x, 0, p - 2);
        }
    }

    /** 2 is the only rest that is looked at, and 1 - 2 is 2: both of class 1. */
    private static void leastPrime() {
        TurningSums x = Given.of(3, 2);
        CHECKS.due("P 3: sum(0, 1, 0)", x.sum(0, 1, 0), 1);
        CHECKS.holds("P 3: sum (1, 0)", x, 0, -1);
        x.sum(0, 0, 1);
        CHECKS.holds("P 3: sum (0, 1)", x, 0, -1);
        x.sum(0, 1, 1);
        CHECKS.holds("P 3: sum (1, 1)", x, 0, 1);
    }

    private static void exponentsOf0() {
        TurningSums x = Given.of(13, 12);
        CHECKS.due("sum(0, 0, 0)", x.sum(0, 0, 0), 11);
        CHECKS.holds("sum (0, 0)", x, 0, 11, 0, 0, 0);
    }

    /** All powers together are 0; the power of 1, which is z^0, is not among them. */
    private static void oneExponentOf0() {
        TurningSums x = Given.of(13, 12);
        x.sum(0, 1, 0);
        CHECKS.holds("sum (1, 0)", x, 0, -1, 0, 0, 0);
        x.sum(1, 0, 7);
        CHECKS.holds("sum (0, 7)", x, 1, -1, 0, 0, 0);
    }

    /** -1 has the index 6: z^6 is -1 for d 12, and z^12 is 1. */
    private static void exponentsThatAddTo0() {
        TurningSums x = Given.of(13, 12);
        x.sum(0, 1, -1);
        CHECKS.holds("sum (1, -1)", x, 0, 1, 0, 0, 0);
        x.sum(0, 2, 10);
        CHECKS.holds("sum (2, 10)", x, 0, -1, 0, 0, 0);
    }

    private static void likeSum(int a, int b, int likeA, int likeB) {
        TurningSums x = Given.of(13, 12);
        CHECKS.due("sum(0, " + a + ", " + b + ")", x.sum(0, a, b), 11);
        x.sum(1, likeA, likeB);
        x.sum(2, likeA + 1, likeB + 1);
        CHECKS.due("sum (" + a + ", " + b + ") is (" + likeA + ", " + likeB + ")", x.same(0, 1), 1);
        CHECKS.due("sum (" + a + ", " + b + ") is another one further on", x.same(0, 2), 0);
    }

    private static void exponentsBeyondTheDegree() {
        likeSum(12, 5, 0, 5);
        likeSum(13, 5, 1, 5);
        likeSum(1, 12, 1, 0);
        likeSum(1, 17, 1, 5);
        likeSum(11, 23, 11, 11);
    }

    private static void exponentsBelow0() {
        likeSum(-1, 5, 11, 5);
        likeSum(1, -1, 1, 11);
        likeSum(-12, -12, 0, 0);
        likeSum(-13, -25, 11, 11);
    }

    /** 2147483647 is 7 modulo 12, -2147483648 is 4. */
    private static void greatestAndLeastExponents() {
        likeSum(Given.GREATEST, 1, 7, 1);
        likeSum(1, Given.GREATEST, 1, 7);
        likeSum(Given.LEAST, 1, 4, 1);
        likeSum(1, Given.LEAST, 1, 4);
        likeSum(Given.GREATEST, Given.GREATEST, 7, 7);
        likeSum(Given.LEAST, Given.LEAST, 4, 4);
    }

    /** With x - 1 for 1 - x the signs would be the other ones: 12 is of class 2, and z^2 is -1 for d 4. */
    private static void theOtherIs1LessX() {
        TurningSums x = Given.of(13, 4);
        x.sum(0, 1, 1);
        CHECKS.holds("P 13, d 4: sum (1, 1)", x, 0, 3, -2);
        x.sum(0, 1, 2);
        CHECKS.holds("P 13, d 4: sum (1, 2)", x, 0, -3, 2);
    }

    private static void theOldNumberIsGone() {
        TurningSums x = Given.filled();
        x.sum(2, 0, 0);
        CHECKS.holds("a full hold told (0, 0)", x, 2, 11, 0, 0, 0);
        CHECKS.holds("the hold before", x, 1, 101, 102, 103, 104);
        CHECKS.holds("the hold after", x, 3, 301, 302, 303, 304);
    }

    private static void firstAndLastHold() {
        TurningSums x = Given.of(13, 12);
        CHECKS.due("sum(5, 0, 0)", x.sum(5, 0, 0), 11);
        CHECKS.holds("sum(5, 0, 0)", x, 5, 11, 0, 0, 0);
        CHECKS.holds("sum(5, 0, 0)", x, 0, 0, 0, 0, 0);
        CHECKS.due("sum(0, 1, 0)", x.sum(0, 1, 0), 11);
        CHECKS.holds("sum(0, 1, 0)", x, 0, -1, 0, 0, 0);
        CHECKS.holds("sum(0, 1, 0)", x, 5, 11, 0, 0, 0);
    }

    private static void noSuchHold() {
        for (int hold : Given.NO_HOLDS) {
            CHECKS.refused("sum(" + hold + ", 1, 1)", x -> x.sum(hold, 1, 1), -2);
        }
    }
}
