/** Promise 12: size, and the sentence of the Terms on SIZE. */
public final class Promise12Test {
    private static final Checks CHECKS = new Checks();
    private static final int BOUND = 100000000;
    private static final int[] PRIME_OF = {0, 3, 5, 7, 13, 31, 37, 43, 41, 73, 61, 67, 157};

    public static void main(String[] args) {
        sizeOf0();
        turnedBy1ForDegree1();
        turnedByDegreeLessOne();
        sizesOfSums();
        noWholeNumber();
        wholeNumberThoughCoefficientsAreNot0();
        beyondTheBoundsOfCoefficients();
        turnedBeyondTheBounds();
        greatestThatIsNoWholeNumber();
        firstAndLastHold();
        noSuchHold();
        nothingChanges();
        CHECKS.end("Promise 12, size");
    }

    private static void sizeOf0() {
        for (int d = 1; d <= 12; d++) {
            CHECKS.due("d " + d + ": size of 0", Given.of(PRIME_OF[d], d).size(3), 0);
        }
    }

    private static void turnedBy1ForDegree1() {
        TurningSums x = Given.of(13, 1);
        x.unit(0, -7, 0);
        CHECKS.due("d 1: size of -7", x.size(0), 49);
        Given.whole(x, 0, BOUND, 0);
        CHECKS.due("d 1: size of the bound", x.size(0), 10000000000000000L);
    }

    private static void turnedByDegreeLessOne() {
        for (int d = 1; d <= 12; d++) {
            TurningSums x = Given.of(PRIME_OF[d], d);
            for (int k = 0; k < d; k++) {
                x.unit(0, -7, k);
                CHECKS.due("d " + d + ": size of -7 z^" + k, x.size(0), 49);
            }
        }
        TurningSums three = Given.of(7, 3);
        Given.number(three, 0, 2, 3);
        CHECKS.due("d 3: size of 2 + 3 z", three.size(0), 7);
        TurningSums four = Given.of(13, 4);
        Given.number(four, 0, 2, 3);
        CHECKS.due("d 4: size of 2 + 3 z", four.size(0), 13);
        TurningSums six = Given.of(7, 6);
        Given.number(six, 0, 2, 3);
        CHECKS.due("d 6: size of 2 + 3 z", six.size(0), 19);
    }

    /** P, but for exponents of which one, or both together, come to 0. */
    private static void sizesOfSums() {
        for (int d = 3; d <= 12; d++) {
            TurningSums x = Given.of(PRIME_OF[d], d);
            x.sum(0, 1, 1);
            CHECKS.due("d " + d + ": size of sum (1, 1)", x.size(0), PRIME_OF[d]);
            x.sum(0, 1, d - 1);
            CHECKS.due("d " + d + ": size of sum (1, d - 1)", x.size(0), 1);
            x.sum(0, 0, 1);
            CHECKS.due("d " + d + ": size of sum (0, 1)", x.size(0), 1);
        }
    }

    /** (1 + z)(1 + z^-1) is 2 + z + z^-1: for d 5 and 10 coefficient 1 of it is 0, others are not. */
    private static void noWholeNumber() {
        for (int d : new int[] {5, 7, 8, 9, 10, 11, 12}) {
            TurningSums x = Given.of(PRIME_OF[d], d);
            Given.number(x, 0, 1, 1);
            CHECKS.still("d " + d + ": size of 1 + z", x, y -> y.size(0), Long.MIN_VALUE);
        }
        for (int d : new int[] {3, 4, 6}) {
            TurningSums x = Given.of(PRIME_OF[d], d);
            Given.number(x, 0, 1, 1);
            CHECKS.due("d " + d + ": size of 1 + z", x.size(0), d == 3 ? 1 : d == 4 ? 2 : 3);
        }
    }

    /** z^3 is a root of -1 for d 12, z^2 is one for d 8, z^3 for d 9 and z^2 for d 10 stand for d 3 and d 5. */
    private static void wholeNumberThoughCoefficientsAreNot0() {
        TurningSums twelve = Given.of(13, 12);
        Given.number(twelve, 0, 2, 0, 0, 3);
        CHECKS.due("d 12: size of 2 + 3 z^3", twelve.size(0), 13);
        TurningSums eight = Given.of(17, 8);
        Given.number(eight, 0, 2, 0, 3, 0);
        CHECKS.due("d 8: size of 2 + 3 z^2", eight.size(0), 13);
        TurningSums nine = Given.of(19, 9);
        Given.number(nine, 0, 2, 0, 0, 3, 0, 0);
        CHECKS.due("d 9: size of 2 + 3 z^3", nine.size(0), 7);
        TurningSums ten = Given.of(11, 10);
        Given.number(ten, 0, 2, 0, 3, 0);
        CHECKS.due("d 10: size of 2 + 3 z^2", ten.size(0), Long.MIN_VALUE);
    }

    private static void beyondTheBoundsOfCoefficients() {
        TurningSums x = Given.of(13, 4);
        Given.number(x, 0, BOUND, -BOUND);
        CHECKS.due("d 4: greatest size", x.size(0), 20000000000000000L);
        TurningSums six = Given.of(7, 6);
        Given.number(six, 0, BOUND, BOUND);
        CHECKS.due("d 6: greatest size", six.size(0), 30000000000000000L);
        TurningSums twelve = Given.of(13, 12);
        Given.number(twelve, 0, BOUND, BOUND, BOUND, -BOUND);
        Given.number(twelve, 1, BOUND, 0, 0, BOUND);
        CHECKS.due("d 12: size of the bound (1 + z^3)", twelve.size(1), 20000000000000000L);
    }

    /** d 3: -1 + 100000000 z turned by 2 has the coefficient -100000001, which no hold could have. */
    private static void turnedBeyondTheBounds() {
        TurningSums x = Given.of(7, 3);
        Given.number(x, 0, -1, BOUND);
        CHECKS.due("turn is too great", x.turn(1, 0, 2), -5);
        CHECKS.due("size is not", x.size(0), 10000000100000001L);
        Given.number(x, 0, -BOUND, BOUND);
        CHECKS.due("d 3: greatest size", x.size(0), 30000000000000000L);
    }

    private static void greatestThatIsNoWholeNumber() {
        TurningSums x = Given.of(23, 11);
        int[] row = new int[10];
        for (int i = 0; i < 10; i++) {
            row[i] = i % 2 == 0 ? BOUND : -BOUND;
        }
        Given.number(x, 0, row);
        CHECKS.still("d 11, all at their bounds", x, y -> y.size(0), Long.MIN_VALUE);
    }

    private static void firstAndLastHold() {
        TurningSums x = Given.of(13, 12);
        x.unit(5, 4, 7);
        x.unit(0, 3, 2);
        CHECKS.due("size(5)", x.size(5), 16);
        CHECKS.due("size(0)", x.size(0), 9);
        CHECKS.due("size(4)", x.size(4), 0);
    }

    private static void noSuchHold() {
        for (int hold : Given.NO_HOLDS) {
            CHECKS.refused("size(" + hold + ")", x -> x.size(hold), Long.MIN_VALUE);
        }
    }

    private static void nothingChanges() {
        TurningSums x = Given.filled();
        Given.number(x, 0, 2, 0, 0, 3);
        CHECKS.still("a size that is a whole number", x, y -> y.size(0), 13);
        CHECKS.still("a size that is none", x, y -> y.size(1), Long.MIN_VALUE);
    }
}
