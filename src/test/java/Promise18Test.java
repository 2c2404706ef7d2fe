/** Promise 18: classes, and the sentence of the Terms on the CLASS NUMBER. */
public final class Promise18Test {
    private static final Checks CHECKS = new Checks();

    public static void main(String[] args) {
        theLeastPrimeIs7();
        primeIsNotAbove3();
        primeIsNot3Modulo4();
        theGreatestPrimeIs199();
        formsAtTheEdgeCountOnce();
        formsOffTheEdgeCountTwice();
        bothWaysAgree();
        squaresWhateverTheDegree();
        noSuchWay();
        outsideComesBeforeNot();
        nothingChanges();
        CHECKS.end("Promise 18, classes");
    }

    private static void classes(int p, int way, int want) {
        CHECKS.due("P " + p + ": classes(" + way + ")", Given.of(p, 2).classes(way), want);
    }

    private static void theLeastPrimeIs7() {
        classes(7, 0, 1);
        classes(7, 1, 1);
    }

    /** 3 modulo 4 is 3, but 3 is not above 3. */
    private static void primeIsNotAbove3() {
        for (int way = 0; way < 2; way++) {
            int how = way;
            CHECKS.still("P 3: classes(" + way + ")", Given.of(3, 2), x -> x.classes(how), -4);
        }
    }

    private static void primeIsNot3Modulo4() {
        for (int p : new int[] {5, 13, 17, 29, 193, 197}) {
            for (int way = 0; way < 2; way++) {
                int how = way;
                CHECKS.still("P " + p + ": classes(" + way + ")", Given.of(p, 2), x -> x.classes(how), -4);
            }
        }
    }

    private static void theGreatestPrimeIs199() {
        classes(199, 0, 9);
        classes(199, 1, 9);
    }

    /** (1, 1, w) is a form of every such P, (1, -1, w) is not counted. */
    private static void formsAtTheEdgeCountOnce() {
        for (int p : new int[] {7, 11, 19, 43, 67, 163}) {
            classes(p, 1, 1);
        }
    }

    /** (2, 1, 3) and (2, -1, 3) for 23; (3, 1, 5), (3, -1, 5) for 59. */
    private static void formsOffTheEdgeCountTwice() {
        classes(23, 1, 3);
        classes(31, 1, 3);
        classes(47, 1, 5);
        classes(59, 1, 3);
        classes(71, 1, 7);
        classes(191, 1, 13);
    }

    private static void bothWaysAgree() {
        int[] known = {7, 1, 11, 1, 19, 1, 23, 3, 31, 3, 43, 1, 47, 5, 59, 3, 67, 1, 71, 7, 79, 5, 83, 3, 103, 5,
            107, 3, 127, 5, 131, 5, 139, 3, 151, 7, 163, 1, 167, 11, 179, 5, 191, 13, 199, 9};
        for (int i = 0; i < known.length; i += 2) {
            classes(known[i], 0, known[i + 1]);
            classes(known[i], 1, known[i + 1]);
        }
    }

    private static void squaresWhateverTheDegree() {
        for (int[] pd : new int[][] {{7, 1}, {7, 3}, {7, 6}, {11, 5}, {11, 10}, {23, 11}, {67, 11}, {199, 9}, {199, 11}}) {
            TurningSums x = Given.of(pd[0], 2);
            int want = x.classes(0);
            x.degree(pd[1]);
            for (int way = 0; way < 2; way++) {
                CHECKS.due("P " + pd[0] + ", d " + pd[1] + ": classes(" + way + ")", x.classes(way), want);
            }
        }
        CHECKS.due("P 23, d 11: classes(0)", Given.of(23, 11).classes(0), 3);
        CHECKS.due("P 13, d 4: classes(0)", Given.of(13, 4).classes(0), -4);
    }

    private static void noSuchWay() {
        for (int way : new int[] {-1, 2, 3, Given.LEAST, Given.GREATEST}) {
            classes(7, way, -3);
            classes(199, way, -3);
        }
    }

    private static void outsideComesBeforeNot() {
        for (int way : new int[] {-1, 2, Given.LEAST, Given.GREATEST}) {
            CHECKS.refused("P 13: classes(" + way + ")", x -> x.classes(way), -3);
            classes(3, way, -3);
        }
    }

    private static void nothingChanges() {
        CHECKS.refused("P 13: classes(0)", x -> x.classes(0), -4);
        CHECKS.refused("P 13: classes(1)", x -> x.classes(1), -4);
        TurningSums x = Given.of(7, 6);
        Given.fill(x);
        CHECKS.still("P 7: classes(0)", x, y -> y.classes(0), 1);
        CHECKS.still("P 7: classes(1)", x, y -> y.classes(1), 1);
        CHECKS.still("P 7: classes(2)", x, y -> y.classes(2), -3);
    }
}
