/** Promise 16: peak, and the sentence of the Terms on PEAK. */
public final class Promise16Test {
    private static final Checks CHECKS = new Checks();

    public static void main(String[] args) {
        theShift0IsNotCounted();
        withoutItsSign();
        shiftsOfEveryClass();
        theEmptySet();
        theFullSet();
        leastPrime();
        greatestPrime();
        bitsOfNoClass();
        signsThatAreNone();
        unknownComesBeforeOutside();
        nothingChanges();
        CHECKS.end("Promise 16, peak");
    }

    private static void peak(TurningSums x, int set, int e, int want) {
        String now = "P " + x.count(0) + ", d " + x.count(2);
        CHECKS.due(now + ": peak(" + set + ", " + e + ")", x.peak(set, e), want);
    }

    /** By 0 the signs would come to P. */
    private static void theShift0IsNotCounted() {
        peak(Given.of(11, 2), 1, 1, 1);
        peak(Given.of(11, 2), 1, -1, 1);
        peak(Given.of(13, 2), 1, 1, 3);
        peak(Given.of(13, 1), 0, 1, 9);
    }

    /** P 7, d 3: 3, -5, -1; P 13, d 6: -11, 9, 5, -3, -7, 1. */
    private static void withoutItsSign() {
        peak(Given.of(7, 3), 1, 1, 5);
        peak(Given.of(13, 6), 25, -1, 11);
        peak(Given.of(7, 6), 3, 1, 1);
    }

    /** The greatest is that of one class of shifts alone: each class once, P 13, d 6. */
    private static void shiftsOfEveryClass() {
        int[] signed = {25, 13, 26, 11, 22, 19};
        int[] signs = {-1, 1, 1, -1, -1, 1};
        for (int c = 0; c < 6; c++) {
            peak(Given.of(13, 6), signed[c], signs[c], 11);
        }
        peak(Given.of(13, 6), 16, -1, 9);
        peak(Given.of(7, 3), 1, -1, 3);
        peak(Given.of(7, 3), 2, 1, 5);
    }

    private static void theEmptySet() {
        peak(Given.of(13, 12), 0, 1, 9);
        peak(Given.of(13, 12), 0, -1, 13);
        peak(Given.of(7, 2), 0, 1, 3);
    }

    private static void theFullSet() {
        peak(Given.of(13, 12), 4095, 1, 13);
        peak(Given.of(13, 12), 4095, -1, 9);
        peak(Given.of(13, 1), 1, 1, 13);
        peak(Given.of(13, 1), 1, -1, 9);
    }

    private static void leastPrime() {
        int[][] due = {{1, 3}, {1, 1}, {1, 1}, {3, 1}};
        for (int set = 0; set < 4; set++) {
            peak(Given.of(3, 2), set, 1, due[set][0]);
            peak(Given.of(3, 2), set, -1, due[set][1]);
        }
    }

    private static void greatestPrime() {
        peak(Given.of(199, 2), 1, 1, 1);
        peak(Given.of(199, 1), 1, 1, 199);
        peak(Given.of(199, 11), 0, 1, 195);
    }

    private static void bitsOfNoClass() {
        for (int d : new int[] {1, 2, 3, 4, 6, 12}) {
            for (int set : new int[] {1 << d, 1 + (1 << d), 1 << 13, 1 << 16, 1 << 30, 1 << 31, -1, -2, Given.GREATEST}) {
                peak(Given.of(13, d), set, 1, -2);
            }
            peak(Given.of(13, d), (1 << d) - 1, 1, 13);
        }
        CHECKS.refused("d 12: peak(4096, 1)", x -> x.peak(4096, 1), -2);
    }

    private static void signsThatAreNone() {
        for (int e : new int[] {0, 2, -2, 3, Given.LEAST, Given.GREATEST}) {
            CHECKS.refused("peak(1, " + e + ")", x -> x.peak(1, e), -3);
            CHECKS.refused("peak(4095, " + e + ")", x -> x.peak(4095, e), -3);
        }
    }

    private static void unknownComesBeforeOutside() {
        CHECKS.refused("peak(4096, 0)", x -> x.peak(4096, 0), -2);
        CHECKS.refused("peak(-1, 2)", x -> x.peak(-1, 2), -2);
    }

    private static void nothingChanges() {
        CHECKS.refused("peak(4095, 1)", x -> x.peak(4095, 1), 13);
        CHECKS.refused("peak(0, 1)", x -> x.peak(0, 1), 9);
    }
}
