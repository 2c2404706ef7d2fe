/** Promise 8: join, and the sentences of the Terms on the bounds of COEFFICIENTS and the order of refusals. */
public final class Promise08Test {
    private static final Checks CHECKS = new Checks();
    private static final int BOUND = 100000000;

    public static void main(String[] args) {
        plusLessTimes();
        noSuchWay();
        noSuchHold();
        noSuchOne();
        noSuchTwo();
        firstAndLastHold();
        theHoldMayBeOneOfThem();
        upToTheBound();
        oneBeyondTheBound();
        productsUpToTheBound();
        productsOneBeyondTheBound();
        productsBeyondAnInt();
        onlyWhatComesOutIsBounded();
        greatestProducts();
        refusedHoldStaysWhole();
        nothingOfAnEarlierDegree();
        unknownComesBeforeOutside();
        outsideComesBeforeGreat();
        CHECKS.end("Promise 8, join");
    }

    private static void plusLessTimes() {
        TurningSums x = Given.filled();
        CHECKS.due("join(3, 0, 1, 0)", x.join(3, 0, 1, 0), 1);
        CHECKS.holds("one plus another one", x, 3, 102, 104, 106, 108);
        CHECKS.due("join(3, 1, 1, 0)", x.join(3, 1, 1, 0), 1);
        CHECKS.holds("one less another one", x, 3, 100, 100, 100, 100);
        CHECKS.due("join(3, 1, 0, 1)", x.join(3, 1, 0, 1), 1);
        CHECKS.holds("the other way round", x, 3, -100, -100, -100, -100);
        x.unit(1, 5, 3);
        x.unit(2, 7, 3);
        CHECKS.due("join(3, 2, 1, 2)", x.join(3, 2, 1, 2), 1);
        CHECKS.holds("z^3 times z^3 is -1", x, 3, -35, 0, 0, 0);
        CHECKS.holds("one of them", x, 1, 0, 0, 0, 5);
        CHECKS.holds("the other of them", x, 2, 0, 0, 0, 7);
    }

    private static void noSuchWay() {
        for (int way : new int[] {-1, 3, Given.LEAST, Given.GREATEST}) {
            CHECKS.refused("join(0, " + way + ", 1, 2)", x -> x.join(0, way, 1, 2), -3);
        }
    }

    private static void noSuchHold() {
        for (int hold : Given.NO_HOLDS) {
            for (int way = 0; way < 3; way++) {
                int how = way;
                CHECKS.refused("join(" + hold + ", " + way + ", 1, 2)", x -> x.join(hold, how, 1, 2), -2);
            }
        }
    }

    private static void noSuchOne() {
        for (int one : Given.NO_HOLDS) {
            for (int way = 0; way < 3; way++) {
                int how = way;
                CHECKS.refused("join(0, " + way + ", " + one + ", 2)", x -> x.join(0, how, one, 2), -2);
            }
        }
    }

    private static void noSuchTwo() {
        for (int two : Given.NO_HOLDS) {
            for (int way = 0; way < 3; way++) {
                int how = way;
                CHECKS.refused("join(0, " + way + ", 1, " + two + ")", x -> x.join(0, how, 1, two), -2);
            }
        }
    }

    private static void firstAndLastHold() {
        TurningSums x = Given.filled();
        CHECKS.due("join(5, 0, 0, 5)", x.join(5, 0, 0, 5), 1);
        CHECKS.holds("join(5, 0, 0, 5)", x, 5, 103, 106, 109, 112);
        CHECKS.holds("join(5, 0, 0, 5)", x, 0, 1, 2, 3, 4);
        CHECKS.due("join(0, 1, 5, 0)", x.join(0, 1, 5, 0), 1);
        CHECKS.holds("join(0, 1, 5, 0)", x, 0, 102, 104, 106, 108);
        CHECKS.holds("join(0, 1, 5, 0)", x, 5, 103, 106, 109, 112);
        CHECKS.holds("join(0, 1, 5, 0)", x, 4, 401, 402, 403, 404);
    }

    /** 1 + z, 2 - z for d 4: their product is 3 + z, their squares are 2 z and 3 - 4 z. */
    private static TurningSums pair() {
        TurningSums x = Given.of(13, 4);
        Given.number(x, 0, 1, 1);
        Given.number(x, 1, 2, -1);
        return x;
    }

    private static void theHoldMayBeOneOfThem() {
        int[][][] due = {
            {{3, 0}, {3, 0}, {2, 2}},
            {{-1, 2}, {-1, 2}, {0, 0}},
            {{3, 1}, {3, 1}, {0, 2}}
        };
        for (int way = 0; way < 3; way++) {
            TurningSums x = pair();
            CHECKS.due("join(0, " + way + ", 0, 1)", x.join(0, way, 0, 1), 1);
            CHECKS.holds("the first is the hold, way " + way, x, 0, due[way][0]);
            CHECKS.holds("the second stays, way " + way, x, 1, 2, -1);
            TurningSums y = pair();
            CHECKS.due("join(1, " + way + ", 0, 1)", y.join(1, way, 0, 1), 1);
            CHECKS.holds("the second is the hold, way " + way, y, 1, due[way][1]);
            CHECKS.holds("the first stays, way " + way, y, 0, 1, 1);
            TurningSums z = pair();
            CHECKS.due("join(0, " + way + ", 0, 0)", z.join(0, way, 0, 0), 1);
            CHECKS.holds("both are the hold, way " + way, z, 0, due[way][2]);
        }
    }

    private static int[] only(int k, int n) {
        int[] row = new int[4];
        row[k] = n;
        return row;
    }

    private static void upToTheBound() {
        for (int k = 0; k < 4; k++) {
            for (int sign = -1; sign <= 1; sign += 2) {
                TurningSums x = Given.of(13, 12);
                Given.whole(x, 0, sign * (BOUND - 1), k);
                x.unit(1, sign, k);
                CHECKS.due("one below the bound plus one, z^" + k, x.join(2, 0, 0, 1), 1);
                CHECKS.holds("one below the bound plus one", x, 2, only(k, sign * BOUND));
                x.unit(1, -sign, k);
                CHECKS.due("one below the bound less minus one, z^" + k, x.join(3, 1, 0, 1), 1);
                CHECKS.holds("one below the bound less minus one", x, 3, only(k, sign * BOUND));
                CHECKS.due("0 plus the bound, z^" + k, x.join(3, 0, 2, 4), 1);
                CHECKS.due("0 less the bound, z^" + k, x.join(3, 1, 4, 2), 1);
                CHECKS.holds("0 less the bound", x, 3, only(k, -sign * BOUND));
                CHECKS.due("bound less bound, z^" + k, x.join(3, 1, 2, 2), 1);
                CHECKS.holds("bound less bound", x, 3, 0, 0, 0, 0);
            }
        }
    }

    private static void oneBeyondTheBound() {
        for (int k = 0; k < 4; k++) {
            for (int sign = -1; sign <= 1; sign += 2) {
                TurningSums x = Given.of(13, 12);
                Given.fill(x);
                Given.whole(x, 0, sign * BOUND, k);
                x.unit(1, sign, k);
                CHECKS.still("the bound plus one more, z^" + k, x, y -> y.join(2, 0, 0, 1), -5);
                CHECKS.still("one plus the bound, z^" + k, x, y -> y.join(2, 0, 1, 0), -5);
                x.unit(1, -sign, k);
                CHECKS.still("the bound less minus one, z^" + k, x, y -> y.join(2, 1, 0, 1), -5);
                CHECKS.still("minus one less the bound, z^" + k, x, y -> y.join(2, 1, 1, 0), -5);
                CHECKS.still("twice the bound, z^" + k, x, y -> y.join(0, 0, 0, 0), -5);
            }
        }
    }

    private static void productsUpToTheBound() {
        for (int k = 0; k < 4; k++) {
            TurningSums x = Given.of(13, 12);
            Given.whole(x, 0, 10000, 0);
            Given.whole(x, 1, 10000, k);
            CHECKS.due("10000 times 10000 z^" + k, x.join(2, 2, 0, 1), 1);
            CHECKS.holds("10000 times 10000 z^" + k, x, 2, only(k, BOUND));
            x.unit(3, -1, 0);
            CHECKS.due("-1 times the bound", x.join(2, 2, 3, 2), 1);
            CHECKS.holds("-1 times the bound", x, 2, only(k, -BOUND));
        }
    }

    /** 100000001 is 17 times 5882353. */
    private static void productsOneBeyondTheBound() {
        for (int k = 0; k < 4; k++) {
            for (int sign = -1; sign <= 1; sign += 2) {
                TurningSums x = Given.filled();
                Given.whole(x, 0, sign * 5882353, k);
                x.unit(1, 17, 0);
                CHECKS.still("17 times 5882353 z^" + k, x, y -> y.join(2, 2, 0, 1), -5);
                x.unit(1, -17, 0);
                CHECKS.still("-17 times 5882353 z^" + k, x, y -> y.join(2, 2, 1, 0), -5);
            }
        }
    }

    /** 65536 times 65536 is 0 as an int, 65537 times 65537 is 131073. */
    private static void productsBeyondAnInt() {
        for (int n : new int[] {65536, 65537, 46341, 92682, BOUND}) {
            TurningSums x = Given.filled();
            Given.whole(x, 0, n, 0);
            CHECKS.still(n + " times itself", x, y -> y.join(1, 2, 0, 0), -5);
            Given.whole(x, 1, -n, 2);
            CHECKS.still(n + " times minus itself z^2", x, y -> y.join(1, 2, 0, 1), -5);
        }
    }

    /** 18817 + 10864 (2 z - z^3) and 18817 - 10864 (2 z - z^3) come to 1, the square of the first to more than the bound. */
    private static void onlyWhatComesOutIsBounded() {
        TurningSums x = Given.of(13, 12);
        Given.number(x, 0, 18817, 21728, 0, -10864);
        Given.number(x, 1, 18817, -21728, 0, 10864);
        CHECKS.due("great products that come to 1", x.join(2, 2, 0, 1), 1);
        CHECKS.holds("great products that come to 1", x, 2, 1, 0, 0, 0);
        CHECKS.still("the square of one of them", x, y -> y.join(2, 2, 0, 0), -5);
    }

    /** All coefficients at their bounds: nothing wraps around to a smaller number. */
    private static void greatestProducts() {
        TurningSums x = Given.of(23, 11);
        int[] row = new int[10];
        for (int i = 0; i < 10; i++) {
            row[i] = i % 2 == 0 ? BOUND : -BOUND;
        }
        Given.number(x, 0, row);
        CHECKS.still("d 11, all at their bounds, times itself", x, y -> y.join(1, 2, 0, 0), -5);
        x.unit(1, 1, 0);
        CHECKS.due("d 11, all at their bounds, times 1", x.join(2, 2, 0, 1), 1);
        CHECKS.holds("d 11, all at their bounds, times 1", x, 2, row);
    }

    private static TurningSums nearTheBound() {
        TurningSums x = Given.of(13, 12);
        Given.number(x, 0, 5, 6, 7, BOUND);
        Given.number(x, 1, BOUND, 6, 7, 5);
        Given.number(x, 2, 1, 2, 3, 4);
        Given.number(x, 3, 1, 0, 0, 1);
        return x;
    }

    /** Only the last or only the first coefficient is too great: the others don't change either. */
    private static void refusedHoldStaysWhole() {
        CHECKS.still("the last coefficient too great", nearTheBound(), x -> x.join(2, 0, 0, 3), -5);
        CHECKS.still("the first coefficient too great", nearTheBound(), x -> x.join(2, 0, 1, 3), -5);
        CHECKS.still("the last too great, in its own hold", nearTheBound(), x -> x.join(0, 0, 0, 3), -5);
        CHECKS.still("the first too great, in its own hold", nearTheBound(), x -> x.join(1, 0, 1, 3), -5);
        CHECKS.still("a product too great, in its own hold", nearTheBound(), x -> x.join(1, 2, 1, 2), -5);
    }

    /** 0 and 0 come to 0, whatever was reckoned before d was told. */
    private static void nothingOfAnEarlierDegree() {
        for (int way = 0; way < 3; way++) {
            for (int d : new int[] {1, 2, 3, 4, 6}) {
                TurningSums x = Given.filled();
                x.degree(d);
                CHECKS.due("d " + d + " after 12: join(0, " + way + ", 1, 2)", x.join(0, way, 1, 2), 1);
                CHECKS.holds("d " + d + " after 12, way " + way, x, 0, new int[x.count(3)]);
            }
        }
    }

    private static void unknownComesBeforeOutside() {
        CHECKS.refused("join(6, 3, 1, 2)", x -> x.join(6, 3, 1, 2), -2);
        CHECKS.refused("join(0, 3, 6, 2)", x -> x.join(0, 3, 6, 2), -2);
        CHECKS.refused("join(0, -1, 1, 6)", x -> x.join(0, -1, 1, 6), -2);
    }

    private static void outsideComesBeforeGreat() {
        TurningSums x = Given.filled();
        Given.whole(x, 0, BOUND, 0);
        CHECKS.still("join(1, 3, 0, 0) of the bound", x, y -> y.join(1, 3, 0, 0), -3);
        CHECKS.still("join(1, -1, 0, 0) of the bound", x, y -> y.join(1, -1, 0, 0), -3);
        CHECKS.still("join(6, 0, 0, 0) of the bound", x, y -> y.join(6, 0, 0, 0), -2);
        CHECKS.still("join(1, 2, 0, 0) of the bound", x, y -> y.join(1, 2, 0, 0), -5);
    }
}
