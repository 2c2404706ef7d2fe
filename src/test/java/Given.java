/** Objects that stand as a test needs them, and all that an object shows of its state. */
final class Given {
    static final int LEAST = Integer.MIN_VALUE;
    static final int GREATEST = Integer.MAX_VALUE;
    static final int[] NO_HOLDS = {-1, 6, LEAST, GREATEST};

    static TurningSums of(int p, int d) {
        TurningSums x = new TurningSums();
        x.prime(p);
        x.degree(d);
        return x;
    }

    /** P 13, d 12 and no coefficient 0: coefficient i of hold h is 100 h + i + 1, of hold 5 it is 2 i + 102. */
    static TurningSums filled() {
        TurningSums x = of(13, 12);
        fill(x);
        return x;
    }

    static void fill(TurningSums x) {
        for (int hold = 0; hold < 5; hold++) {
            x.unit(hold, 100 * hold + 1, 0);
            for (int i = 1; i < x.count(3); i++) {
                x.unit(5, 100 * hold + i + 1, i);
                x.join(hold, 0, hold, 5);
            }
        }
        x.join(5, 0, 0, 1);
    }

    /** The hold becomes n z^k, n being within the bounds of a coefficient; hold 5 becomes another number too. */
    static void whole(TurningSums x, int hold, int n, int k) {
        x.unit(hold, n / 1000000, k);
        for (int by : new int[] {1000, 1}) {
            x.unit(5, 1000, 0);
            x.join(hold, 2, hold, 5);
            x.unit(5, n / by % 1000, k);
            x.join(hold, 0, hold, 5);
        }
    }

    /** The hold becomes the number of these coefficients; holds 4 and 5 become other ones too. */
    static void number(TurningSums x, int hold, int... coefficients) {
        x.unit(hold, 0, 0);
        for (int k = 0; k < coefficients.length; k++) {
            whole(x, 4, coefficients[k], k);
            x.join(hold, 0, hold, 4);
        }
    }

    /** What count, at and rest show; with P 13 it takes at most 41 calls. */
    static long[] shown(TurningSums x) {
        int p = x.count(0);
        int phi = x.count(3);
        int rests = Math.min(p, 30);
        long[] all = new long[4 + 6 * phi + rests];
        int n = 0;
        for (int what = 0; what < 4; what++) {
            all[n++] = x.count(what);
        }
        for (int hold = 0; hold < 6; hold++) {
            for (int i = 0; i < phi; i++) {
                all[n++] = x.at(hold, i);
            }
        }
        for (int rest = 0; rest < rests; rest++) {
            all[n++] = x.rest(rest, 0);
        }
        return all;
    }

    private Given() {
    }
}
