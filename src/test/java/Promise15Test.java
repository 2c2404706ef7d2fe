/** Promise 15: over, and the sentences of the Terms on SIGNS, sets and OVER. */
public final class Promise15Test {
    private static final Checks CHECKS = new Checks();

    public static void main(String[] args) {
        shiftsThatAre0ModuloPrime();
        shiftsBeyondTheRests();
        greatestAndLeastShifts();
        theEmptySet();
        theFullSet();
        theGreatestClassAlone();
        theSignOf0();
        signsThatAreNone();
        bitsOfNoClass();
        bothAreRefusedByTheLeastInt();
        leastPrime();
        nothingChanges();
        CHECKS.end("Promise 15, over");
    }

    private static void over(TurningSums x, int set, int e, int t, int want) {
        String now = "P " + x.count(0) + ", d " + x.count(2);
        CHECKS.due(now + ": over(" + set + ", " + e + ", " + t + ")", x.over(set, e, t), want);
    }

    private static void shiftsThatAre0ModuloPrime() {
        for (int t : new int[] {0, 13, -13, 26, -26, 13 * 165191049, -13 * 165191049}) {
            over(Given.of(13, 2), 1, 1, t, 13);
            over(Given.of(13, 2), 1, -1, t, 13);
            over(Given.of(13, 12), 0, 1, t, 13);
            over(Given.of(13, 12), 4095, -1, t, 13);
        }
    }

    /** P 7, d 3, the classes 0: 1 and 6; by 1, 3 and 2, which is 3^2, it is 3, -5, -1. */
    private static void shiftsBeyondTheRests() {
        for (int by = -14; by <= 14; by += 7) {
            over(Given.of(7, 3), 1, 1, 1 + by, 3);
            over(Given.of(7, 3), 1, 1, 2 + by, -1);
            over(Given.of(7, 3), 1, 1, 3 + by, -5);
            over(Given.of(7, 3), 1, 1, 4 + by, -5);
            over(Given.of(7, 3), 1, 1, 5 + by, -1);
            over(Given.of(7, 3), 1, 1, 6 + by, 3);
        }
    }

    /** 2147483647 is 1 modulo 7, and 10 modulo 13; -2147483648 is 5 modulo 7, and 2 modulo 13. */
    private static void greatestAndLeastShifts() {
        over(Given.of(7, 3), 1, 1, Given.GREATEST, 3);
        over(Given.of(7, 3), 1, 1, Given.LEAST, -1);
        over(Given.of(7, 3), 2, 1, Given.GREATEST, -1);
        over(Given.of(7, 3), 2, 1, Given.LEAST, -5);
        over(Given.of(13, 2), 1, 1, Given.GREATEST, 1);
        over(Given.of(13, 2), 1, 1, Given.LEAST, -3);
        over(Given.of(199, 2), 1, 1, Given.LEAST, -1);
        over(Given.of(199, 11), 1, 1, Given.LEAST, 131);
    }

    /** All signs are -1, but that of 0. */
    private static void theEmptySet() {
        over(Given.of(13, 2), 0, 1, 5, 9);
        over(Given.of(13, 2), 0, -1, 5, 13);
        over(Given.of(13, 1), 0, 1, 1, 9);
    }

    private static void theFullSet() {
        over(Given.of(13, 12), 4095, 1, 5, 13);
        over(Given.of(13, 12), 4095, -1, 5, 9);
        over(Given.of(13, 2), 3, 1, 5, 13);
        over(Given.of(13, 1), 1, -1, 5, 9);
    }

    /** 7 alone is of class 11: with it and 0 the sign is 1, six rests apart. */
    private static void theGreatestClassAlone() {
        over(Given.of(13, 12), 1 << 11, 1, 7, 9);
        over(Given.of(13, 12), 1 << 11, 1, 6, 9);
        over(Given.of(13, 12), 1 << 11, 1, 5, 5);
        over(Given.of(13, 12), 1 << 11, -1, 7, 9);
    }

    private static void theSignOf0() {
        over(Given.of(7, 3), 1, 1, 3, -5);
        over(Given.of(7, 3), 1, -1, 3, -1);
        over(Given.of(5, 2), 1, 1, 1, 1);
        over(Given.of(5, 2), 1, -1, 1, -3);
    }

    private static void signsThatAreNone() {
        for (int e : new int[] {0, 2, -2, 3, Given.LEAST, Given.GREATEST}) {
            CHECKS.refused("over(1, " + e + ", 3)", x -> x.over(1, e, 3), Given.LEAST);
            CHECKS.refused("over(1, " + e + ", 0)", x -> x.over(1, e, 0), Given.LEAST);
        }
    }

    private static void bitsOfNoClass() {
        for (int d : new int[] {1, 2, 3, 4, 6, 12}) {
            for (int set : new int[] {1 << d, 1 + (1 << d), 1 << 13, 1 << 16, 1 << 30, 1 << 31, -1, -2, Given.GREATEST}) {
                over(Given.of(13, d), set, 1, 3, Given.LEAST);
                over(Given.of(13, d), set, 1, 0, Given.LEAST);
            }
            int all = (1 << d) - 1;
            over(Given.of(13, d), all, 1, 3, 13);
        }
        CHECKS.refused("d 12: over(4096, 1, 1)", x -> x.over(4096, 1, 1), Given.LEAST);
    }

    private static void bothAreRefusedByTheLeastInt() {
        CHECKS.refused("over(4096, 0, 1)", x -> x.over(4096, 0, 1), Given.LEAST);
        CHECKS.refused("over(-1, 2, 1)", x -> x.over(-1, 2, 1), Given.LEAST);
    }

    private static void leastPrime() {
        over(Given.of(3, 2), 0, 1, 1, -1);
        over(Given.of(3, 2), 0, -1, 1, 3);
        over(Given.of(3, 2), 1, 1, 2, -1);
        over(Given.of(3, 2), 3, 1, 2, 3);
        over(Given.of(3, 2), 3, -1, 2, -1);
    }

    private static void nothingChanges() {
        CHECKS.refused("over(4095, 1, 1)", x -> x.over(4095, 1, 1), 13);
        CHECKS.refused("over(0, -1, 0)", x -> x.over(0, -1, 0), 13);
    }
}
