import java.util.Arrays;
import java.util.function.ToLongFunction;

/** Counts the answers that are not due and tells them; a test's main ends by end(). */
final class Checks {
    private static final int MOST_TOLD = 40;
    private int wrong = 0;
    private long looked = 0;

    void due(String call, long got, long want) {
        looked++;
        if (got != want) {
            wrong++;
            if (wrong <= MOST_TOLD) {
                System.out.println(call + " answered " + got + ", due is " + want);
            }
        }
    }

    /** The call answers so, and what the object shows stays as it was. */
    void still(String call, TurningSums x, ToLongFunction<TurningSums> what, long want) {
        long[] before = Given.shown(x);
        due(call, what.applyAsLong(x), want);
        due(call + ": nothing changes", Arrays.equals(before, Given.shown(x)) ? 1 : 0, 1);
    }

    /** The call answers so on an object with P 13, d 12 and every hold full, and nothing of it changes. */
    void refused(String call, ToLongFunction<TurningSums> what, long want) {
        still(call, Given.filled(), what, want);
    }

    /** The hold has these coefficients and no more. */
    void holds(String when, TurningSums x, int hold, int... coefficients) {
        for (int i = 0; i < coefficients.length; i++) {
            due(when + ": at(" + hold + ", " + i + ")", x.at(hold, i), coefficients[i]);
        }
        due(when + ": at(" + hold + ", " + coefficients.length + ")", x.at(hold, coefficients.length), Given.LEAST);
    }

    void end(String test) {
        System.out.println(test + ": " + looked + " answers looked at, " + wrong + " not as due");
        if (wrong != 0) {
            System.exit(1);
        }
    }
}
