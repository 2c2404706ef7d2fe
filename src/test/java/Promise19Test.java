/** Promise 19: count. */
public final class Promise19Test {
    private static final Checks CHECKS = new Checks();

    public static void main(String[] args) {
        fourCounts();
        noSuchCount();
        afterTellingPrime();
        afterRefusals();
        nothingChanges();
        CHECKS.end("Promise 19, count");
    }

    private static void counts(String when, TurningSums x, int... want) {
        for (int what = 0; what < 4; what++) {
            CHECKS.due(when + ": count(" + what + ")", x.count(what), want[what]);
        }
    }

    private static void fourCounts() {
        counts("a new object", new TurningSums(), 13, 2, 2, 1);
        counts("P 3, d 1", Given.of(3, 1), 3, 2, 1, 1);
        counts("P 199, d 11", Given.of(199, 11), 199, 3, 11, 10);
        counts("P 73, d 9", Given.of(73, 9), 73, 5, 9, 6);
        counts("P 41, d 10", Given.of(41, 10), 41, 6, 10, 4);
    }

    private static void noSuchCount() {
        for (int what : new int[] {-1, 4, 5, Given.LEAST, Given.GREATEST}) {
            CHECKS.refused("count(" + what + ")", x -> x.count(what), -3);
        }
    }

    private static void afterTellingPrime() {
        TurningSums x = Given.of(199, 11);
        x.prime(31);
        counts("P 31 after 199, d 11", x, 31, 3, 2, 1);
        x.degree(5);
        counts("P 31, d 5", x, 31, 3, 5, 4);
        x.prime(31);
        counts("P 31 again", x, 31, 3, 2, 1);
    }

    private static void afterRefusals() {
        TurningSums x = Given.of(31, 5);
        x.prime(211);
        x.prime(33);
        x.degree(4);
        x.degree(15);
        x.degree(0);
        counts("P 31, d 5 after refusals", x, 31, 3, 5, 4);
    }

    private static void nothingChanges() {
        CHECKS.refused("count(0)", x -> x.count(0), 13);
        CHECKS.refused("count(3)", x -> x.count(3), 4);
    }
}
