/** Promise 11: same. */
public final class Promise11Test {
    private static final Checks CHECKS = new Checks();
    private static final int[] PRIME_OF = {0, 3, 5, 7, 13, 31, 37, 43, 41, 73, 61, 67, 157};

    public static void main(String[] args) {
        aHoldIsLikeItself();
        everyCoefficientCounts();
        anotherSignIsAnotherNumber();
        theSameByOtherPowers();
        afterAnotherDegree();
        firstAndLastHold();
        noSuchOne();
        noSuchTwo();
        nothingChanges();
        CHECKS.end("Promise 11, same");
    }

    private static void aHoldIsLikeItself() {
        TurningSums x = Given.filled();
        for (int hold = 0; hold < 6; hold++) {
            CHECKS.due("same(" + hold + ", " + hold + ")", x.same(hold, hold), 1);
        }
    }

    private static void everyCoefficientCounts() {
        for (int d = 1; d <= 12; d++) {
            TurningSums x = Given.of(PRIME_OF[d], d);
            Given.fill(x);
            x.turn(1, 0, 1);
            CHECKS.due("d " + d + ": alike in all", x.same(0, 1), 1);
            for (int i = 0; i < x.count(3); i++) {
                for (int sign = -1; sign <= 1; sign += 2) {
                    x.unit(2, sign, i);
                    x.join(1, 0, 0, 2);
                    CHECKS.due("d " + d + ": unlike in coefficient " + i + " alone", x.same(0, 1), 0);
                    CHECKS.due("d " + d + ": the other way round, " + i, x.same(1, 0), 0);
                }
            }
        }
    }

    private static void anotherSignIsAnotherNumber() {
        for (int i = 0; i < 4; i++) {
            TurningSums x = Given.of(13, 12);
            x.unit(0, 3, i);
            x.unit(1, -3, i);
            CHECKS.due("3 z^" + i + " is not -3 z^" + i, x.same(0, 1), 0);
            CHECKS.due("-3 z^" + i + " is not 3 z^" + i, x.same(1, 0), 0);
        }
    }

    private static void theSameByOtherPowers() {
        TurningSums x = new TurningSums();
        x.unit(0, 3, 1);
        x.unit(1, -3, 0);
        CHECKS.due("d 2: 3 z is -3", x.same(0, 1), 1);
        TurningSums y = Given.of(13, 12);
        y.unit(0, 3, 14);
        y.unit(1, -3, 8);
        y.unit(2, 3, 2);
        CHECKS.due("d 12: 3 z^14 is 3 z^2", y.same(0, 2), 1);
        CHECKS.due("d 12: 3 z^2 is -3 z^8", y.same(2, 1), 1);
        CHECKS.due("d 12: 3 z^2 is not 0", y.same(2, 3), 0);
    }

    private static void afterAnotherDegree() {
        TurningSums x = Given.filled();
        x.degree(6);
        CHECKS.due("d 6 after 12: all are 0", x.same(0, 1), 1);
        x.degree(12);
        CHECKS.due("d 12 again: all are 0", x.same(4, 5), 1);
    }

    private static void firstAndLastHold() {
        TurningSums x = Given.filled();
        CHECKS.due("same(0, 5)", x.same(0, 5), 0);
        x.turn(0, 5, 1);
        CHECKS.due("same(0, 5) when they are", x.same(0, 5), 1);
        CHECKS.due("same(5, 0) when they are", x.same(5, 0), 1);
        CHECKS.due("same(4, 5)", x.same(4, 5), 0);
    }

    private static void noSuchOne() {
        for (int one : Given.NO_HOLDS) {
            CHECKS.refused("same(" + one + ", 0)", x -> x.same(one, 0), -2);
            CHECKS.refused("same(" + one + ", " + one + ")", x -> x.same(one, one), -2);
        }
    }

    private static void noSuchTwo() {
        for (int two : Given.NO_HOLDS) {
            CHECKS.refused("same(0, " + two + ")", x -> x.same(0, two), -2);
        }
    }

    private static void nothingChanges() {
        CHECKS.refused("same(0, 1)", x -> x.same(0, 1), 0);
        CHECKS.refused("same(5, 5)", x -> x.same(5, 5), 1);
    }
}
