/** Promise 9: turn, and the sentence of the Terms on TURNED. */
public final class Promise09Test {
    private static final Checks CHECKS = new Checks();
    private static final int BOUND = 100000000;
    private static final int[] PRIME_OF = {0, 3, 5, 7, 13, 31, 37, 43, 41, 73, 61, 67, 157};

    public static void main(String[] args) {
        byOne();
        byDegreeLessOne();
        byNumbersBeyondTheDegree();
        byNumbersBelow0();
        byGreatestAndLeast();
        byZero();
        commonDivisors();
        anyNumberForDegree1();
        higherPowersAreReduced();
        theHoldMayBeTheOther();
        firstAndLastHold();
        noSuchHold();
        noSuchOther();
        upToTheBound();
        oneBeyondTheBound();
        refusedHoldStaysWhole();
        unknownComesBeforeOutside();
        outsideComesBeforeGreat();
        CHECKS.end("Promise 9, turn");
    }

    private static void likeTurn(TurningSums x, int t, int like) {
        String now = "d " + x.count(2) + ": turn(2, 1, " + t + ")";
        x.unit(2, 0, 0);
        CHECKS.due(now, x.turn(2, 1, t), 1);
        x.turn(3, 1, like);
        CHECKS.due(now + " is as by " + like, x.same(2, 3), 1);
    }

    private static void byOne() {
        for (int d = 1; d <= 12; d++) {
            TurningSums x = Given.of(PRIME_OF[d], d);
            Given.fill(x);
            CHECKS.due("d " + d + ": turn(2, 1, 1)", x.turn(2, 1, 1), 1);
            CHECKS.due("d " + d + ": by 1 it is itself", x.same(2, 1), 1);
        }
    }

    /** z becomes z^-1, which times z is 1. */
    private static void byDegreeLessOne() {
        for (int d = 1; d <= 12; d++) {
            TurningSums x = Given.of(PRIME_OF[d], d);
            x.unit(0, 1, 0);
            x.unit(1, 1, 1);
            int t = d == 1 ? 1 : d - 1;
            CHECKS.due("d " + d + ": turn(2, 1, " + t + ")", x.turn(2, 1, t), 1);
            x.join(3, 2, 1, 2);
            CHECKS.due("d " + d + ": z times z^" + t, x.same(3, 0), 1);
        }
    }

    private static void byNumbersBeyondTheDegree() {
        TurningSums x = Given.filled();
        likeTurn(x, 13, 1);
        likeTurn(x, 17, 5);
        likeTurn(x, 23, 11);
        likeTurn(x, 1205, 5);
    }

    private static void byNumbersBelow0() {
        TurningSums x = Given.filled();
        likeTurn(x, -1, 11);
        likeTurn(x, -11, 1);
        likeTurn(x, -13, 11);
        likeTurn(x, -7, 5);
    }

    /** -2147483648 is 4 modulo 12, 7 modulo 9, 9 modulo 11; 2147483647 is 7, 1 and 1. */
    private static void byGreatestAndLeast() {
        TurningSums x = Given.filled();
        likeTurn(x, Given.GREATEST, 7);
        CHECKS.still("d 12: turn(2, 1, least)", x, y -> y.turn(2, 1, Given.LEAST), -3);
        TurningSums nine = Given.of(19, 9);
        Given.fill(nine);
        likeTurn(nine, Given.LEAST, 7);
        likeTurn(nine, Given.GREATEST, 1);
        TurningSums eleven = Given.of(23, 11);
        Given.fill(eleven);
        likeTurn(eleven, Given.LEAST, 9);
        likeTurn(eleven, Given.GREATEST, 1);
    }

    private static void byZero() {
        for (int d = 2; d <= 12; d++) {
            TurningSums x = Given.of(PRIME_OF[d], d);
            x.unit(0, 4, 0);
            x.unit(1, 3, 1);
            int now = d;
            CHECKS.due("d " + d + ": turn(0, 1, 0)", x.turn(0, 1, 0), -3);
            CHECKS.due("d " + d + ": turn(0, 1, d)", x.turn(0, 1, now), -3);
            CHECKS.due("d " + d + ": turn(0, 1, -d)", x.turn(0, 1, -now), -3);
            CHECKS.due("d " + d + ": turn(0, 1, 2 d)", x.turn(0, 1, 2 * now), -3);
            CHECKS.due("d " + d + ": refused, at(0, 0)", x.at(0, 0), 4);
        }
    }

    private static int greatestCommon(int a, int b) {
        return b == 0 ? Math.abs(a) : greatestCommon(b, a % b);
    }

    private static void commonDivisors() {
        for (int t : new int[] {2, 3, 4, 6, 8, 9, 10, 12, 14, 15, 21, -2, -3, -9, -15}) {
            CHECKS.refused("d 12: turn(2, 1, " + t + ")", x -> x.turn(2, 1, t), -3);
        }
        for (int d = 2; d <= 12; d++) {
            TurningSums x = Given.of(PRIME_OF[d], d);
            x.unit(1, 3, 1);
            for (int t = -26; t <= 26; t++) {
                boolean fits = greatestCommon(t, d) == 1;
                CHECKS.due("d " + d + ": turn(2, 1, " + t + ")", x.turn(2, 1, t), fits ? 1 : -3);
            }
        }
    }

    private static void anyNumberForDegree1() {
        TurningSums x = Given.of(13, 1);
        x.unit(0, 9, 0);
        for (int t : new int[] {0, 1, 2, -1, 12, Given.LEAST, Given.GREATEST}) {
            x.unit(1, 0, 0);
            CHECKS.due("d 1: turn(1, 0, " + t + ")", x.turn(1, 0, t), 1);
            CHECKS.holds("d 1: by " + t, x, 1, 9);
        }
    }

    /** By 5, d 12: 1, z^5, z^10, z^15 are 1, z^3 - z, 1 - z^2, z^3. */
    private static void higherPowersAreReduced() {
        TurningSums x = Given.filled();
        x.turn(3, 0, 5);
        CHECKS.holds("1 + 2 z + 3 z^2 + 4 z^3 by 5", x, 3, 4, -2, -3, 6);
        CHECKS.holds("the other stays", x, 0, 1, 2, 3, 4);
        TurningSums y = Given.of(7, 3);
        Given.number(y, 0, 5, 2);
        y.turn(1, 0, 2);
        CHECKS.holds("d 3: 5 + 2 z by 2", y, 1, 3, -2);
    }

    private static void theHoldMayBeTheOther() {
        TurningSums x = Given.filled();
        CHECKS.due("turn(0, 0, 5)", x.turn(0, 0, 5), 1);
        CHECKS.holds("turn(0, 0, 5)", x, 0, 4, -2, -3, 6);
        x.turn(0, 0, 5);
        CHECKS.holds("and back", x, 0, 1, 2, 3, 4);
    }

    private static void firstAndLastHold() {
        TurningSums x = Given.filled();
        CHECKS.due("turn(5, 0, 1)", x.turn(5, 0, 1), 1);
        CHECKS.holds("turn(5, 0, 1)", x, 5, 1, 2, 3, 4);
        TurningSums y = Given.filled();
        CHECKS.due("turn(0, 5, 1)", y.turn(0, 5, 1), 1);
        CHECKS.holds("turn(0, 5, 1)", y, 0, 102, 104, 106, 108);
        CHECKS.holds("turn(0, 5, 1)", y, 5, 102, 104, 106, 108);
        CHECKS.holds("turn(0, 5, 1)", y, 1, 101, 102, 103, 104);
    }

    private static void noSuchHold() {
        for (int hold : Given.NO_HOLDS) {
            CHECKS.refused("turn(" + hold + ", 0, 1)", x -> x.turn(hold, 0, 1), -2);
        }
    }

    private static void noSuchOther() {
        for (int other : Given.NO_HOLDS) {
            CHECKS.refused("turn(0, " + other + ", 1)", x -> x.turn(0, other, 1), -2);
        }
    }

    /** d 3: a + b z by 2 is a - b - b z. */
    private static void upToTheBound() {
        for (int sign = -1; sign <= 1; sign += 2) {
            TurningSums x = Given.of(7, 3);
            Given.number(x, 0, 0, sign * BOUND);
            CHECKS.due("the bound turned", x.turn(1, 0, 2), 1);
            CHECKS.holds("the bound turned", x, 1, -sign * BOUND, -sign * BOUND);
            Given.number(x, 0, sign * (BOUND - 1), -sign);
            CHECKS.due("the bound by two together", x.turn(1, 0, 2), 1);
            CHECKS.holds("the bound by two together", x, 1, sign * BOUND, sign);
        }
    }

    private static void oneBeyondTheBound() {
        for (int sign = -1; sign <= 1; sign += 2) {
            TurningSums x = Given.of(7, 3);
            Given.number(x, 0, -sign, sign * BOUND);
            Given.number(x, 1, 3, 4);
            CHECKS.still("one beyond the bound", x, y -> y.turn(1, 0, 2), -5);
            Given.number(x, 0, sign * BOUND, -sign);
            CHECKS.still("one beyond the bound again", x, y -> y.turn(1, 0, 2), -5);
            Given.number(x, 0, sign * BOUND, -sign * BOUND);
            CHECKS.still("twice the bound", x, y -> y.turn(1, 0, 2), -5);
        }
    }

    /** d 12 by 5: the last coefficient is the second and the last together, the first is the first and the third. */
    private static void refusedHoldStaysWhole() {
        TurningSums x = Given.of(13, 12);
        Given.number(x, 0, 7, BOUND, 8, 1);
        Given.number(x, 1, BOUND, 9, 1, 5);
        Given.number(x, 2, 1, 2, 3, 4);
        CHECKS.still("the last coefficient too great", x, y -> y.turn(2, 0, 5), -5);
        CHECKS.still("the first coefficient too great", x, y -> y.turn(2, 1, 5), -5);
        CHECKS.still("the last too great, in its own hold", x, y -> y.turn(0, 0, 5), -5);
        CHECKS.still("the first too great, in its own hold", x, y -> y.turn(1, 1, 5), -5);
    }

    private static void unknownComesBeforeOutside() {
        CHECKS.refused("turn(6, 0, 2)", x -> x.turn(6, 0, 2), -2);
        CHECKS.refused("turn(0, 6, 2)", x -> x.turn(0, 6, 2), -2);
        CHECKS.refused("turn(-1, -1, 0)", x -> x.turn(-1, -1, 0), -2);
    }

    /** d 4: z^2 is -1, so that by 2 the bound less the bound z would come to twice the bound. */
    private static void outsideComesBeforeGreat() {
        TurningSums x = Given.of(13, 4);
        Given.number(x, 0, BOUND, -BOUND);
        CHECKS.still("too great by 2", x, y -> y.turn(1, 0, 2), -3);
        Given.number(x, 0, BOUND, BOUND);
        CHECKS.still("too great by 0", x, y -> y.turn(1, 0, 0), -3);
        CHECKS.still("too great by 4", x, y -> y.turn(1, 0, 4), -3);
    }
}
