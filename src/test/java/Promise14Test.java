/** Promise 14: rows, and the sentence of the Terms on ROWS. */
public final class Promise14Test {
    private static final Checks CHECKS = new Checks();

    public static void main(String[] args) {
        theEmptyRow();
        rowsOfOne();
        rowsOfTwo();
        rowsOfSix();
        longerThanSix();
        shorterThanNone();
        moduloPrime();
        classZeroOnly();
        zeroIsInNoRow();
        beyondAnInt();
        askedAgain();
        nothingChanges();
        CHECKS.end("Promise 14, rows");
    }

    private static void theEmptyRow() {
        for (int[] pd : new int[][] {{3, 1}, {3, 2}, {13, 2}, {13, 12}, {199, 1}, {199, 11}}) {
            CHECKS.due("P " + pd[0] + ", d " + pd[1] + ": rows(0)", Given.of(pd[0], pd[1]).rows(0), 1);
        }
    }

    private static void rowsOfOne() {
        for (int[] pd : new int[][] {{3, 1}, {3, 2}, {13, 2}, {13, 12}, {199, 1}, {199, 11}}) {
            CHECKS.due("P " + pd[0] + ", d " + pd[1] + ": rows(1)", Given.of(pd[0], pd[1]).rows(1), 0);
        }
    }

    /** x and -x, if -1 is of class 0; (x, -x) and (-x, x) are two rows. */
    private static void rowsOfTwo() {
        CHECKS.due("P 13, d 2: rows(2)", Given.of(13, 2).rows(2), 6);
        CHECKS.due("P 13, d 4: rows(2)", Given.of(13, 4).rows(2), 0);
        CHECKS.due("P 13, d 1: rows(2)", Given.of(13, 1).rows(2), 12);
        CHECKS.due("P 7, d 2: rows(2)", Given.of(7, 2).rows(2), 0);
    }

    /** With d 6 and P 13 the rests 1 and -1 alone are of class 0: as many of each. */
    private static void rowsOfSix() {
        CHECKS.due("P 13, d 6: rows(6)", Given.of(13, 6).rows(6), 20);
        CHECKS.due("P 13, d 6: rows(5)", Given.of(13, 6).rows(5), 0);
        CHECKS.due("P 3, d 1: rows(6)", Given.of(3, 1).rows(6), 22);
        CHECKS.due("P 13, d 4: rows(6)", Given.of(13, 4).rows(6), 90);
        CHECKS.due("P 13, d 4: rows(3)", Given.of(13, 4).rows(3), 6);
    }

    private static void longerThanSix() {
        for (int k : new int[] {7, 8, 13, Given.GREATEST}) {
            CHECKS.refused("rows(" + k + ")", x -> x.rows(k), -3);
        }
    }

    private static void shorterThanNone() {
        for (int k : new int[] {-1, -6, Given.LEAST}) {
            CHECKS.refused("rows(" + k + ")", x -> x.rows(k), -3);
        }
    }

    /** 1 alone is of class 0: as many ones as P come to 0. */
    private static void moduloPrime() {
        long[] three = {1, 0, 0, 1, 0, 0, 1};
        long[] five = {1, 0, 0, 0, 0, 1, 0};
        for (int k = 0; k <= 6; k++) {
            CHECKS.due("P 3, d 2: rows(" + k + ")", Given.of(3, 2).rows(k), three[k]);
            CHECKS.due("P 5, d 4: rows(" + k + ")", Given.of(5, 4).rows(k), five[k]);
            CHECKS.due("P 7, d 6: rows(" + k + ")", Given.of(7, 6).rows(k), k == 0 ? 1 : 0);
        }
    }

    /** P 7, d 3: class 0 is 1 and 6; d 2: class 0 is 1, 2, 4, which come to 0 in each order. */
    private static void classZeroOnly() {
        CHECKS.due("P 7, d 3: rows(2)", Given.of(7, 3).rows(2), 2);
        CHECKS.due("P 7, d 3: rows(3)", Given.of(7, 3).rows(3), 0);
        CHECKS.due("P 7, d 2: rows(3)", Given.of(7, 2).rows(3), 6);
        CHECKS.due("P 13, d 12: rows(6)", Given.of(13, 12).rows(6), 0);
    }

    /** With d 1 all rests but 0 are of class 0: ((P - 1)^k + (P - 1)) / P for even k. */
    private static void zeroIsInNoRow() {
        CHECKS.due("P 3, d 1: rows(2)", Given.of(3, 1).rows(2), 2);
        CHECKS.due("P 3, d 1: rows(3)", Given.of(3, 1).rows(3), 2);
        CHECKS.due("P 5, d 1: rows(4)", Given.of(5, 1).rows(4), 52);
    }

    private static void beyondAnInt() {
        CHECKS.due("P 199, d 1: rows(6)", Given.of(199, 1).rows(6), 302787585738L);
        CHECKS.due("P 199, d 1: rows(5)", Given.of(199, 1).rows(5), 1529230230L);
        CHECKS.due("P 199, d 2: rows(6)", Given.of(199, 2).rows(6), 4730942700L);
    }

    /** No row of an earlier call is left over. */
    private static void askedAgain() {
        TurningSums x = Given.of(13, 4);
        long[] due = {1, 0, 0, 6, 0, 15, 90};
        for (int round = 0; round < 2; round++) {
            for (int k = 6; k >= 0; k--) {
                CHECKS.due("P 13, d 4: rows(" + k + "), round " + round, x.rows(k), due[k]);
                CHECKS.due("P 13, d 4: rows(2) after rows(" + k + ")", x.rows(2), 0);
            }
        }
        x.degree(6);
        CHECKS.due("P 13, d 6 after d 4: rows(6)", x.rows(6), 20);
        x.prime(3);
        CHECKS.due("P 3, d 2 after P 13, d 6: rows(6)", x.rows(6), 1);
    }

    private static void nothingChanges() {
        CHECKS.refused("rows(0)", x -> x.rows(0), 1);
        CHECKS.refused("rows(6)", x -> x.rows(6), 0);
    }
}
