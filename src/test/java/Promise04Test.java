/** Promise 4: rest, and the sentences of the Terms on RESTS, INDEX and CLASS. */
public final class Promise04Test {
    private static final Checks CHECKS = new Checks();

    public static void main(String[] args) {
        indicesFrom0ToPrimeLess2();
        classIsIndexModuloDegree();
        noneWhereItIs0();
        numbersBeyondTheRests();
        numbersBelow0();
        greatestAndLeastNumbers();
        wrongWhat();
        wrongWhatComesBeforeNone();
        nothingChanges();
        CHECKS.end("Promise 4, rest");
    }

    /** 2^0 is 1, 2^6 is 12, 2^11 is 7: the index of 1 is 0, not 12. */
    private static void indicesFrom0ToPrimeLess2() {
        int[] indices = {0, 1, 4, 2, 9, 5, 11, 3, 8, 10, 7, 6};
        for (int n = 1; n < 13; n++) {
            CHECKS.due("P 13: rest(" + n + ", 0)", new TurningSums().rest(n, 0), indices[n - 1]);
        }
        CHECKS.due("P 3: rest(1, 0)", Given.of(3, 2).rest(1, 0), 0);
        CHECKS.due("P 3: rest(2, 0)", Given.of(3, 2).rest(2, 0), 1);
        CHECKS.due("P 199: rest(198, 0)", Given.of(199, 2).rest(198, 0), 99);
        CHECKS.due("P 199: rest(133, 0), 3 times 133 is 1", Given.of(199, 2).rest(133, 0), 197);
    }

    private static void classIsIndexModuloDegree() {
        CHECKS.due("d 12: rest(7, 1), index 11", Given.of(13, 12).rest(7, 1), 11);
        CHECKS.due("d 12: rest(1, 1), index 0", Given.of(13, 12).rest(1, 1), 0);
        CHECKS.due("d 4: rest(8, 1), index 3", Given.of(13, 4).rest(8, 1), 3);
        CHECKS.due("d 4: rest(3, 1), index 4", Given.of(13, 4).rest(3, 1), 0);
        CHECKS.due("d 4: rest(6, 1), index 5", Given.of(13, 4).rest(6, 1), 1);
        CHECKS.due("d 2: rest(7, 1), index 11", new TurningSums().rest(7, 1), 1);
        CHECKS.due("d 1: rest(7, 1)", Given.of(13, 1).rest(7, 1), 0);
        CHECKS.due("d 1: rest(7, 0)", Given.of(13, 1).rest(7, 0), 11);
    }

    private static void noneWhereItIs0() {
        for (int what = 0; what < 2; what++) {
            for (int n : new int[] {0, 13, -13, 26, -26, 13 * 165191049, -13 * 165191049}) {
                CHECKS.due("P 13: rest(" + n + ", " + what + ")", new TurningSums().rest(n, what), -1);
            }
        }
    }

    private static void numbersBeyondTheRests() {
        CHECKS.due("P 13: rest(14, 0)", new TurningSums().rest(14, 0), 0);
        CHECKS.due("P 13: rest(25, 0)", new TurningSums().rest(25, 0), 6);
        CHECKS.due("P 13: rest(27, 0)", new TurningSums().rest(27, 0), 0);
        CHECKS.due("P 13, d 12: rest(20, 1)", Given.of(13, 12).rest(20, 1), 11);
    }

    private static void numbersBelow0() {
        CHECKS.due("P 13: rest(-1, 0)", new TurningSums().rest(-1, 0), 6);
        CHECKS.due("P 13: rest(-12, 0)", new TurningSums().rest(-12, 0), 0);
        CHECKS.due("P 13: rest(-14, 0)", new TurningSums().rest(-14, 0), 6);
        CHECKS.due("P 13, d 12: rest(-6, 1)", Given.of(13, 12).rest(-6, 1), 11);
    }

    /** 2147483647 is 10 modulo 13, -2147483648 is 2. */
    private static void greatestAndLeastNumbers() {
        CHECKS.due("P 13: rest(greatest, 0)", new TurningSums().rest(Given.GREATEST, 0), 10);
        CHECKS.due("P 13: rest(least, 0)", new TurningSums().rest(Given.LEAST, 0), 1);
        CHECKS.due("P 13, d 4: rest(greatest, 1)", Given.of(13, 4).rest(Given.GREATEST, 1), 2);
        CHECKS.due("P 13, d 4: rest(least, 1)", Given.of(13, 4).rest(Given.LEAST, 1), 1);
    }

    private static void wrongWhat() {
        for (int what : new int[] {-1, 2, 3, Given.LEAST, Given.GREATEST}) {
            CHECKS.due("rest(5, " + what + ")", new TurningSums().rest(5, what), -3);
        }
    }

    /** "Refused" stands before any answer. */
    private static void wrongWhatComesBeforeNone() {
        CHECKS.due("rest(0, 2)", new TurningSums().rest(0, 2), -3);
        CHECKS.due("rest(13, -1)", new TurningSums().rest(13, -1), -3);
    }

    private static void nothingChanges() {
        CHECKS.refused("rest(5, 2)", x -> x.rest(5, 2), -3);
        CHECKS.refused("rest(5, 0)", x -> x.rest(5, 0), 9);
    }
}
