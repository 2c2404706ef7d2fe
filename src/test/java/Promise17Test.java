/** Promise 17: even, and the sentence of the Terms on EVEN. */
public final class Promise17Test {
    private static final Checks CHECKS = new Checks();

    public static void main(String[] args) {
        theEmptySet();
        theFullSet();
        oneRestHasNoDifference();
        theDifference0IsNotCounted();
        evenSets();
        unevenInOneClassAlone();
        zeroIsInNoSet();
        bitsOfNoClass();
        nothingChanges();
        CHECKS.end("Promise 17, even");
    }

    private static void even(TurningSums x, int set, int want) {
        CHECKS.due("P " + x.count(0) + ", d " + x.count(2) + ": even(" + set + ")", x.even(set), want);
    }

    /** Each rest is a difference of none: as often. */
    private static void theEmptySet() {
        for (int[] pd : new int[][] {{3, 1}, {3, 2}, {13, 2}, {13, 12}, {199, 11}}) {
            even(Given.of(pd[0], pd[1]), 0, 0);
        }
    }

    private static void theFullSet() {
        for (int[] pd : new int[][] {{3, 1}, {3, 2}, {13, 1}, {13, 2}, {13, 12}, {199, 1}, {199, 11}}) {
            even(Given.of(pd[0], pd[1]), (1 << pd[1]) - 1, pd[0] - 2);
        }
    }

    private static void oneRestHasNoDifference() {
        even(Given.of(3, 2), 1, 0);
        even(Given.of(3, 2), 2, 0);
        even(Given.of(7, 6), 32, 0);
        even(Given.of(13, 12), 1 << 11, 0);
    }

    /** 0 is a difference as often as the set has rests: then no set but the empty one were even. */
    private static void theDifference0IsNotCounted() {
        even(Given.of(7, 2), 1, 1);
        even(Given.of(11, 2), 1, 2);
        even(Given.of(3, 1), 1, 1);
    }

    private static void evenSets() {
        even(Given.of(37, 4), 1, 2);
        even(Given.of(37, 4), 8, 2);
        even(Given.of(73, 8), 1, 1);
        even(Given.of(199, 2), 2, 49);
        even(Given.of(7, 6), 13, 1);
        even(Given.of(7, 6), 60, 2);
        even(Given.of(13, 4), 14, 6);
        even(Given.of(13, 12), 29, 1);
    }

    /** P 13, d 6, one class: one class of rests alone is a difference, each class once; P 13, d 3, two classes: one less. */
    private static void unevenInOneClassAlone() {
        for (int set = 1; set < 64; set *= 2) {
            even(Given.of(13, 6), set, -1);
        }
        for (int set : new int[] {3, 5, 6}) {
            even(Given.of(13, 3), set, -1);
        }
        for (int set : new int[] {1, 2, 4}) {
            even(Given.of(7, 3), set, -1);
        }
        even(Given.of(13, 2), 1, -1);
        even(Given.of(5, 2), 2, -1);
    }

    /** With 0 the fourth powers would be even: 0, 1, 3, 9 modulo 13, and 28 rests modulo 109. */
    private static void zeroIsInNoSet() {
        even(Given.of(13, 4), 1, -1);
        even(Given.of(5, 4), 3, -1);
        even(Given.of(109, 4), 1, -1);
    }

    private static void bitsOfNoClass() {
        for (int d : new int[] {1, 2, 3, 4, 6, 12}) {
            for (int set : new int[] {1 << d, 1 + (1 << d), 1 << 13, 1 << 16, 1 << 30, 1 << 31, -1, -2, Given.GREATEST}) {
                even(Given.of(13, d), set, -2);
            }
            even(Given.of(13, d), (1 << d) - 1, 11);
        }
        CHECKS.refused("d 12: even(4096)", x -> x.even(4096), -2);
        CHECKS.refused("d 12: even(least)", x -> x.even(Given.LEAST), -2);
    }

    private static void nothingChanges() {
        CHECKS.refused("even(4095)", x -> x.even(4095), 11);
        CHECKS.refused("even(3)", x -> x.even(3), -1);
    }
}
