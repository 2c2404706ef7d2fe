/** Promise 13: solutions, and the sentence of the Terms on SOLUTIONS. */
public final class Promise13Test {
    private static final Checks CHECKS = new Checks();

    public static void main(String[] args) {
        zerosAreRestsToo();
        factorsOf0();
        factorsThatAre0ModuloPrime();
        numbersModuloPrime();
        greatestAndLeastNumbers();
        leastPrime();
        greatestPrime();
        leastDegree();
        greatestDegree();
        pairsAreOrdered();
        nothingChanges();
        CHECKS.end("Promise 13, solutions");
    }

    private static void likewise(String now, TurningSums x, int a, int b, int c, int want) {
        CHECKS.due(now + ": solutions(" + a + ", " + b + ", " + c + ")", x.solutions(a, b, c), want);
    }

    /** -1 is a square modulo 13, -2 is none: then (0, 0) alone is left. */
    private static void zerosAreRestsToo() {
        TurningSums x = new TurningSums();
        likewise("P 13, d 2", x, 1, 1, 0, 25);
        likewise("P 13, d 2", x, 1, 2, 0, 1);
        likewise("P 13, d 2", x, 1, 0, 0, 13);
        likewise("P 13, d 2", x, 1, 1, 1, 12);
    }

    private static void factorsOf0() {
        TurningSums x = new TurningSums();
        likewise("P 13, d 2", x, 0, 0, 0, 169);
        likewise("P 13, d 2", x, 0, 0, 1, 0);
        likewise("P 13, d 2", x, 0, 0, -1, 0);
        likewise("P 13, d 2", x, 0, 1, 0, 13);
        likewise("P 13, d 2", x, 0, 1, 4, 26);
        likewise("P 13, d 2", x, 1, 0, 4, 26);
        likewise("P 13, d 2", x, 0, 1, 2, 0);
        likewise("P 13, d 2", x, 1, 0, 2, 0);
    }

    private static void factorsThatAre0ModuloPrime() {
        TurningSums x = new TurningSums();
        likewise("P 13, d 2", x, 13, -26, 39, 169);
        likewise("P 13, d 2", x, 13, -13, 1, 0);
        likewise("P 13, d 2", x, 26, 1, 4, 26);
        likewise("P 13, d 2", x, 1, -13, 4, 26);
        likewise("P 13, d 2", x, 1, 2, 13, 1);
    }

    private static void numbersModuloPrime() {
        TurningSums x = Given.of(13, 4);
        likewise("P 13, d 4", x, 1, 1, 1, 8);
        likewise("P 13, d 4", x, 14, 1, 1, 8);
        likewise("P 13, d 4", x, 1, -12, 1, 8);
        likewise("P 13, d 4", x, -25, 27, -12, 8);
        likewise("P 13, d 4", x, 1, 1, 14, 8);
        likewise("P 13, d 4", x, 1, 1, -1, 32);
    }

    /** 2147483647 is 10 modulo 13, -2147483648 is 2. */
    private static void greatestAndLeastNumbers() {
        int[][] like = {{10, 2, 1}, {2, 10, 1}, {10, 10, 2}, {2, 2, 10}, {10, 2, 10}};
        for (int d : new int[] {1, 2, 3, 4, 6, 12}) {
            TurningSums x = Given.of(13, d);
            for (int[] abc : like) {
                int want = x.solutions(abc[0], abc[1], abc[2]);
                likewise("P 13, d " + d, x, great(abc[0]), great(abc[1]), great(abc[2]), want);
            }
        }
        likewise("P 13, d 2", new TurningSums(), Given.GREATEST, Given.LEAST, Given.LEAST, 14);
        likewise("P 13, d 12", Given.of(13, 12), Given.GREATEST, Given.LEAST, Given.LEAST, 12);
        likewise("P 13, d 12", Given.of(13, 12), Given.LEAST, Given.LEAST, 4, 144);
    }

    private static int great(int rest) {
        return rest == 10 ? Given.GREATEST : rest == 2 ? Given.LEAST : rest;
    }

    private static void leastPrime() {
        TurningSums x = Given.of(3, 2);
        likewise("P 3, d 2", x, 1, 1, 0, 1);
        likewise("P 3, d 2", x, 1, 1, 1, 4);
        likewise("P 3, d 2", x, 1, 1, 2, 4);
        likewise("P 3, d 2", x, 1, 2, 0, 5);
    }

    private static void greatestPrime() {
        likewise("P 199, d 2", Given.of(199, 2), 198, 198, 198, 200);
        likewise("P 199, d 2", Given.of(199, 2), 1, 1, 0, 1);
        likewise("P 199, d 11", Given.of(199, 11), 198, 1, 0, 198 * 11 + 1);
        likewise("P 199, d 1", Given.of(199, 1), 198, 197, 196, 199);
    }

    private static void leastDegree() {
        TurningSums x = Given.of(13, 1);
        likewise("P 13, d 1", x, 1, 1, 0, 13);
        likewise("P 13, d 1", x, 5, 0, 7, 13);
        likewise("P 13, d 1", x, 0, 0, 0, 169);
    }

    /** x^12 is 1 but for 0. */
    private static void greatestDegree() {
        TurningSums x = Given.of(13, 12);
        likewise("P 13, d 12", x, 1, 1, 0, 1);
        likewise("P 13, d 12", x, 1, 1, 1, 24);
        likewise("P 13, d 12", x, 1, 1, 2, 144);
        likewise("P 13, d 12", x, 1, 1, 3, 0);
        likewise("P 13, d 12", x, 1, -1, 0, 145);
    }

    private static void pairsAreOrdered() {
        TurningSums x = Given.of(13, 12);
        likewise("P 13, d 12", x, 5, 7, 5, 12);
        likewise("P 13, d 12", x, 5, 7, 7, 12);
        likewise("P 13, d 12", x, 5, 5, 5, 24);
    }

    private static void nothingChanges() {
        CHECKS.refused("solutions(1, 1, 1)", x -> x.solutions(1, 1, 1), 24);
        CHECKS.refused("solutions(0, 0, 0)", x -> x.solutions(0, 0, 0), 169);
    }
}
