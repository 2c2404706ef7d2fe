/** Promise 3: degree, and the sentences of the Terms on d, PHI and what telling d makes 0. */
public final class Promise03Test {
    private static final Checks CHECKS = new Checks();

    public static void main(String[] args) {
        theLeastIs1();
        belowOne();
        theGreatestIs12();
        aboveTwelveThoughItDivides();
        noDivisor();
        dividesPrimeLessOneNotPrime();
        phiOfEachDegree();
        primeAndRootStay();
        allHoldsBecome0();
        alsoWhenDIsToldAgain();
        refusedChangesNothing();
        CHECKS.end("Promise 3, degree");
    }

    private static void theLeastIs1() {
        TurningSums x = Given.filled();
        CHECKS.due("degree(1)", x.degree(1), 1);
        CHECKS.due("d 1: count(2)", x.count(2), 1);
        CHECKS.due("d 1: rest(7, 1)", x.rest(7, 1), 0);
        CHECKS.due("d 1: meeting(1, 0)", x.meeting(1, 0), -2);
    }

    /** -1, -2 and -12 do divide 12, and 0 divides nothing. */
    private static void belowOne() {
        for (int d : new int[] {0, -1, -2, -12, -13, Given.LEAST}) {
            CHECKS.refused("degree(" + d + ")", x -> x.degree(d), -3);
        }
    }

    private static void theGreatestIs12() {
        TurningSums x = new TurningSums();
        CHECKS.due("P 13: degree(12)", x.degree(12), 4);
        CHECKS.due("P 13, d 12: count(2)", x.count(2), 12);
        CHECKS.due("P 13, d 12: rest(7, 1)", x.rest(7, 1), 11);
    }

    /** 13 divides 53 - 1, 14 divides 29 - 1, 16 divides 17 - 1, 198 is 199 - 1. */
    private static void aboveTwelveThoughItDivides() {
        for (int[] pd : new int[][] {{53, 13}, {79, 13}, {29, 14}, {17, 16}, {199, 198}, {199, 99}, {181, 15}}) {
            TurningSums x = new TurningSums();
            x.prime(pd[0]);
            x.unit(0, 9, 0);
            CHECKS.still("P " + pd[0] + ": degree(" + pd[1] + ")", x, y -> y.degree(pd[1]), -3);
        }
        CHECKS.refused("degree(greatest)", x -> x.degree(Given.GREATEST), -3);
    }

    private static void noDivisor() {
        for (int d : new int[] {5, 7, 8, 9, 10, 11}) {
            CHECKS.refused("P 13: degree(" + d + ")", x -> x.degree(d), -3);
        }
        for (int d : new int[] {4, 6, 12}) {
            CHECKS.still("P 3: degree(" + d + "), above P - 1", Given.of(3, 1), x -> x.degree(d), -3);
        }
    }

    private static void dividesPrimeLessOneNotPrime() {
        for (int p : new int[] {3, 5, 7, 11}) {
            CHECKS.still("degree(" + p + ") of its own P", Given.of(p, 2), x -> x.degree(p), -3);
            CHECKS.due("P " + p + ": degree(2)", Given.of(p, 1).degree(2), 1);
        }
        CHECKS.due("P 3: degree(2), as great as P - 1", Given.of(3, 1).degree(2), 1);
        CHECKS.due("P 11: degree(10)", Given.of(11, 1).degree(10), 4);
    }

    private static void phiOfEachDegree() {
        int[] primes = {0, 3, 5, 7, 13, 31, 37, 43, 41, 73, 61, 67, 157};
        int[] phis = {0, 1, 1, 2, 2, 4, 2, 6, 4, 6, 4, 10, 4};
        for (int d = 1; d <= 12; d++) {
            TurningSums x = new TurningSums();
            x.prime(primes[d]);
            CHECKS.due("P " + primes[d] + ": degree(" + d + ")", x.degree(d), phis[d]);
            CHECKS.due("d " + d + ": count(3)", x.count(3), phis[d]);
            CHECKS.due("d " + d + ": at(5, PHI - 1)", x.at(5, phis[d] - 1), 0);
            CHECKS.due("d " + d + ": at(5, PHI)", x.at(5, phis[d]), Given.LEAST);
        }
    }

    private static void primeAndRootStay() {
        TurningSums x = Given.of(41, 8);
        CHECKS.due("d told: count(0)", x.count(0), 41);
        CHECKS.due("d told: count(1)", x.count(1), 6);
        CHECKS.due("d told: rest(40, 0)", x.rest(40, 0), 20);
    }

    private static void allHoldsBecome0() {
        TurningSums x = Given.filled();
        x.degree(6);
        for (int hold = 0; hold < 6; hold++) {
            CHECKS.holds("d 6 after d 12", x, hold, 0, 0);
        }
        TurningSums y = Given.filled();
        y.degree(2);
        y.degree(12);
        for (int hold = 0; hold < 6; hold++) {
            CHECKS.holds("d 12 after d 2 after d 12", y, hold, 0, 0, 0, 0);
        }
    }

    private static void alsoWhenDIsToldAgain() {
        TurningSums x = Given.filled();
        CHECKS.due("degree(12) again", x.degree(12), 4);
        for (int hold = 0; hold < 6; hold++) {
            CHECKS.holds("d told again", x, hold, 0, 0, 0, 0);
        }
        TurningSums y = new TurningSums();
        y.unit(5, 3, 0);
        y.degree(2);
        CHECKS.holds("the first d told", y, 5, 0);
    }

    private static void refusedChangesNothing() {
        TurningSums x = Given.of(7, 6);
        Given.fill(x);
        CHECKS.still("P 7, d 6: degree(4)", x, y -> y.degree(4), -3);
        CHECKS.still("P 7, d 6: degree(0)", x, y -> y.degree(0), -3);
        CHECKS.still("P 7, d 6: degree(12)", x, y -> y.degree(12), -3);
    }
}
