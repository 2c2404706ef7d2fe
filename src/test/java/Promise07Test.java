/** Promise 7: unit, and the sentences of the Terms on NUMBERS and how higher powers are reduced. */
public final class Promise07Test {
    private static final Checks CHECKS = new Checks();
    /** For each degree: a prime, then what z^PHI comes to. */
    private static final int[][] RELATIONS = {
        {},
        {3, 1},
        {3, -1},
        {7, -1, -1},
        {5, -1, 0},
        {11, -1, -1, -1, -1},
        {7, -1, 1},
        {29, -1, -1, -1, -1, -1, -1},
        {17, -1, 0, 0, 0},
        {19, -1, 0, 0, -1, 0, 0},
        {11, -1, 1, -1, 1},
        {23, -1, -1, -1, -1, -1, -1, -1, -1, -1, -1},
        {13, -1, 0, 1, 0}
    };

    public static void main(String[] args) {
        factorsUpTo1000();
        factorsBeyond1000();
        factor0();
        thePowerPhiIsReduced();
        thePowersBelowPhiStand();
        thePowerDIsOne();
        powersBelow0();
        greatestAndLeastPowers();
        theOldNumberIsGone();
        firstAndLastHold();
        noSuchHold();
        unknownComesBeforeOutside();
        CHECKS.end("Promise 7, unit");
    }

    private static void factorsUpTo1000() {
        TurningSums x = Given.of(13, 12);
        CHECKS.due("unit(0, 1000, 3)", x.unit(0, 1000, 3), 1);
        CHECKS.holds("unit(0, 1000, 3)", x, 0, 0, 0, 0, 1000);
        CHECKS.due("unit(0, -1000, 3)", x.unit(0, -1000, 3), 1);
        CHECKS.holds("unit(0, -1000, 3)", x, 0, 0, 0, 0, -1000);
    }

    private static void factorsBeyond1000() {
        for (int c : new int[] {1001, -1001, Given.GREATEST, Given.LEAST}) {
            CHECKS.refused("unit(0, " + c + ", 3)", x -> x.unit(0, c, 3), -3);
        }
    }

    private static void factor0() {
        TurningSums x = Given.filled();
        CHECKS.due("unit(1, 0, 3)", x.unit(1, 0, 3), 1);
        CHECKS.holds("unit(1, 0, 3)", x, 1, 0, 0, 0, 0);
    }

    private static int[] reduced(int d, int factor) {
        int[] row = new int[RELATIONS[d].length - 1];
        for (int i = 0; i < row.length; i++) {
            row[i] = factor * RELATIONS[d][i + 1];
        }
        return row;
    }

    private static void thePowerPhiIsReduced() {
        for (int d = 1; d <= 12; d++) {
            TurningSums x = Given.of(RELATIONS[d][0], d);
            int phi = RELATIONS[d].length - 1;
            CHECKS.due("d " + d + ": unit(2, 7, " + phi + ")", x.unit(2, 7, phi), 1);
            CHECKS.holds("d " + d + ": 7 z^" + phi, x, 2, reduced(d, 7));
        }
    }

    private static void thePowersBelowPhiStand() {
        for (int d = 1; d <= 12; d++) {
            TurningSums x = Given.of(RELATIONS[d][0], d);
            int phi = RELATIONS[d].length - 1;
            for (int k = 0; k < phi; k++) {
                int[] row = new int[phi];
                row[k] = -7;
                x.unit(2, -7, k);
                CHECKS.holds("d " + d + ": -7 z^" + k, x, 2, row);
            }
        }
    }

    private static void thePowerDIsOne() {
        for (int d = 1; d <= 12; d++) {
            TurningSums x = Given.of(RELATIONS[d][0], d);
            x.unit(0, 7, 0);
            for (int k : new int[] {d, -d, 2 * d, 100 * d, -100 * d}) {
                CHECKS.due("d " + d + ": unit(1, 7, " + k + ")", x.unit(1, 7, k), 1);
                CHECKS.due("d " + d + ": 7 z^" + k + " is 7", x.same(0, 1), 1);
            }
            x.unit(1, 7, d - 1);
            CHECKS.due("d " + d + ": 7 z^(d - 1) is 7", x.same(0, 1), d == 1 ? 1 : 0);
        }
    }

    private static void powersBelow0() {
        for (int d = 1; d <= 12; d++) {
            TurningSums x = Given.of(RELATIONS[d][0], d);
            x.unit(0, 7, d - 1);
            x.unit(1, 7, -1);
            CHECKS.due("d " + d + ": z^-1 is z^(d - 1)", x.same(0, 1), 1);
            x.unit(0, 1, 1);
            x.join(2, 2, 0, 1);
            x.unit(3, 7, 0);
            CHECKS.due("d " + d + ": z times 7 z^-1 is 7", x.same(2, 3), 1);
        }
    }

    /** 2147483647 is 7 modulo 12, -2147483648 is 4; modulo 11 they are 1 and 9. */
    private static void greatestAndLeastPowers() {
        TurningSums x = Given.of(13, 12);
        CHECKS.due("d 12: unit(0, 5, greatest)", x.unit(0, 5, Given.GREATEST), 1);
        CHECKS.holds("d 12: 5 z^7", x, 0, 0, -5, 0, 0);
        CHECKS.due("d 12: unit(0, 5, least)", x.unit(0, 5, Given.LEAST), 1);
        CHECKS.holds("d 12: 5 z^4", x, 0, -5, 0, 5, 0);
        TurningSums y = Given.of(23, 11);
        y.unit(0, 5, Given.GREATEST);
        CHECKS.holds("d 11: 5 z", y, 0, 0, 5, 0, 0, 0, 0, 0, 0, 0, 0);
        y.unit(0, 5, Given.LEAST);
        CHECKS.holds("d 11: 5 z^9", y, 0, 0, 0, 0, 0, 0, 0, 0, 0, 0, 5);
    }

    private static void theOldNumberIsGone() {
        TurningSums x = Given.filled();
        x.unit(3, 9, 1);
        CHECKS.holds("a full hold told 9 z", x, 3, 0, 9, 0, 0);
        CHECKS.holds("the hold before", x, 2, 201, 202, 203, 204);
        CHECKS.holds("the hold after", x, 4, 401, 402, 403, 404);
    }

    private static void firstAndLastHold() {
        TurningSums x = Given.of(13, 12);
        CHECKS.due("unit(5, 8, 2)", x.unit(5, 8, 2), 1);
        CHECKS.holds("unit(5, 8, 2)", x, 5, 0, 0, 8, 0);
        CHECKS.due("unit(0, 9, 0)", x.unit(0, 9, 0), 1);
        CHECKS.holds("unit(0, 9, 0)", x, 0, 9, 0, 0, 0);
        CHECKS.holds("unit(0, 9, 0)", x, 5, 0, 0, 8, 0);
    }

    private static void noSuchHold() {
        for (int hold : Given.NO_HOLDS) {
            CHECKS.refused("unit(" + hold + ", 1, 1)", x -> x.unit(hold, 1, 1), -2);
        }
    }

    private static void unknownComesBeforeOutside() {
        CHECKS.refused("unit(6, 1001, 1)", x -> x.unit(6, 1001, 1), -2);
        CHECKS.refused("unit(-1, -1001, 1)", x -> x.unit(-1, -1001, 1), -2);
    }
}
