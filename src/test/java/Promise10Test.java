/** Promise 10: at, and the sentences of the Terms on how many COEFFICIENTS there are. */
public final class Promise10Test {
    private static final Checks CHECKS = new Checks();
    private static final int[] PRIME_OF = {0, 3, 5, 7, 13, 31, 37, 43, 41, 73, 61, 67, 157};
    private static final int[] PHI = {0, 1, 1, 2, 2, 4, 2, 6, 4, 6, 4, 10, 4};

    public static void main(String[] args) {
        asManyCoefficientsAsPhi();
        noSuchCoefficient();
        noSuchHold();
        coefficientsOfAnEarlierDegree();
        firstAndLastHold();
        coefficientsAtTheirBounds();
        answersThatLookLikeRefusals();
        CHECKS.end("Promise 10, at");
    }

    private static void asManyCoefficientsAsPhi() {
        for (int d = 1; d <= 12; d++) {
            TurningSums x = Given.of(PRIME_OF[d], d);
            Given.fill(x);
            for (int i = 0; i < PHI[d]; i++) {
                CHECKS.due("d " + d + ": at(2, " + i + ")", x.at(2, i), 201 + i);
            }
            CHECKS.due("d " + d + ": at(2, PHI)", x.at(2, PHI[d]), Given.LEAST);
            CHECKS.due("d " + d + ": at(2, -1)", x.at(2, -1), Given.LEAST);
        }
    }

    private static void noSuchCoefficient() {
        for (int i : new int[] {-1, 4, 5, 10, 11, 12, Given.LEAST, Given.GREATEST}) {
            CHECKS.refused("d 12: at(0, " + i + ")", x -> x.at(0, i), Given.LEAST);
        }
    }

    private static void noSuchHold() {
        for (int hold : Given.NO_HOLDS) {
            CHECKS.refused("at(" + hold + ", 0)", x -> x.at(hold, 0), Given.LEAST);
            CHECKS.refused("at(" + hold + ", 4)", x -> x.at(hold, 4), Given.LEAST);
        }
    }

    private static void coefficientsOfAnEarlierDegree() {
        TurningSums x = Given.filled();
        x.degree(6);
        CHECKS.due("d 6 after 12: at(0, 1)", x.at(0, 1), 0);
        CHECKS.due("d 6 after 12: at(0, 2)", x.at(0, 2), Given.LEAST);
        x.prime(13);
        CHECKS.due("d 2 after 6: at(0, 1)", x.at(0, 1), Given.LEAST);
        x.degree(12);
        CHECKS.due("d 12 after 2: at(0, 3)", x.at(0, 3), 0);
    }

    private static void firstAndLastHold() {
        TurningSums x = Given.filled();
        CHECKS.due("at(0, 0)", x.at(0, 0), 1);
        CHECKS.due("at(0, 3)", x.at(0, 3), 4);
        CHECKS.due("at(5, 0)", x.at(5, 0), 102);
        CHECKS.due("at(5, 3)", x.at(5, 3), 108);
    }

    private static void coefficientsAtTheirBounds() {
        TurningSums x = Given.of(13, 12);
        Given.number(x, 0, 100000000, -100000000, -100000000, 100000000);
        CHECKS.holds("all at their bounds", x, 0, 100000000, -100000000, -100000000, 100000000);
    }

    /** A coefficient may be -2 or -5: only the least int tells a refusal. */
    private static void answersThatLookLikeRefusals() {
        TurningSums x = Given.of(13, 12);
        Given.number(x, 0, -1, -2, -3, -5);
        CHECKS.holds("small coefficients below 0", x, 0, -1, -2, -3, -5);
    }
}
