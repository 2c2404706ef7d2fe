/** Promise 5: meeting, and the sentence of the Terms on MEETING. */
public final class Promise05Test {
    private static final Checks CHECKS = new Checks();

    public static void main(String[] args) {
        theLastRestMeetsNone();
        zeroIsOfNoClass();
        leastPrime();
        oneClass();
        firstThenTheNext();
        greatestClass();
        noSuchClass();
        classesOfAnEarlierDegree();
        nothingChanges();
        CHECKS.end("Promise 5, meeting");
    }

    /** P - 1 has a class, but 0, the next one, has none: with d 1 all but it are counted. */
    private static void theLastRestMeetsNone() {
        CHECKS.due("P 13, d 1: meeting(0, 0)", Given.of(13, 1).meeting(0, 0), 11);
        CHECKS.due("P 3, d 1: meeting(0, 0)", Given.of(3, 1).meeting(0, 0), 1);
        CHECKS.due("P 199, d 1: meeting(0, 0)", Given.of(199, 1).meeting(0, 0), 197);
    }

    /** 1 is of class 0; only 12 times a class is counted with it, never 0. */
    private static void zeroIsOfNoClass() {
        TurningSums x = Given.of(13, 12);
        int into = 0;
        int outOf = 0;
        for (int i = 0; i < 12; i++) {
            into += x.meeting(i, 0);
            outOf += x.meeting(6, i);
        }
        CHECKS.due("P 13, d 12: what comes one before 1", into, 0);
        CHECKS.due("P 13, d 12: what comes one after 12", outOf, 0);
    }

    private static void leastPrime() {
        TurningSums x = Given.of(3, 2);
        CHECKS.due("P 3: meeting(0, 0)", x.meeting(0, 0), 0);
        CHECKS.due("P 3: meeting(0, 1)", x.meeting(0, 1), 1);
        CHECKS.due("P 3: meeting(1, 0)", x.meeting(1, 0), 0);
        CHECKS.due("P 3: meeting(1, 1)", x.meeting(1, 1), 0);
    }

    private static void oneClass() {
        TurningSums x = Given.of(13, 1);
        CHECKS.due("d 1: meeting(1, 0)", x.meeting(1, 0), -2);
        CHECKS.due("d 1: meeting(0, 1)", x.meeting(0, 1), -2);
        CHECKS.due("d 1: meeting(-1, 0)", x.meeting(-1, 0), -2);
    }

    /** 7 is 2^11 and 8 is 2^3. */
    private static void firstThenTheNext() {
        CHECKS.due("d 12: meeting(11, 3)", Given.of(13, 12).meeting(11, 3), 1);
        CHECKS.due("d 12: meeting(3, 11)", Given.of(13, 12).meeting(3, 11), 0);
    }

    /** 6 is 2^5, 7 is 2^11, 8 is 2^3. */
    private static void greatestClass() {
        CHECKS.due("d 12: meeting(5, 11)", Given.of(13, 12).meeting(5, 11), 1);
        CHECKS.due("d 12: meeting(11, 11)", Given.of(13, 12).meeting(11, 11), 0);
        CHECKS.due("d 2: meeting(1, 1)", Given.of(13, 2).meeting(1, 1), 3);
        CHECKS.due("d 2: meeting(0, 0)", Given.of(13, 2).meeting(0, 0), 2);
    }

    private static void noSuchClass() {
        for (int i : new int[] {-1, 12, 13, Given.LEAST, Given.GREATEST}) {
            CHECKS.refused("d 12: meeting(" + i + ", 0)", x -> x.meeting(i, 0), -2);
            CHECKS.refused("d 12: meeting(0, " + i + ")", x -> x.meeting(0, i), -2);
            CHECKS.refused("d 12: meeting(" + i + ", " + i + ")", x -> x.meeting(i, i), -2);
        }
    }

    private static void classesOfAnEarlierDegree() {
        TurningSums x = Given.of(13, 12);
        x.degree(6);
        CHECKS.due("d 6 after 12: meeting(5, 5)", x.meeting(5, 5), 1);
        CHECKS.due("d 6 after 12: meeting(6, 0)", x.meeting(6, 0), -2);
        x.prime(13);
        CHECKS.due("d 2 after 6: meeting(2, 0)", x.meeting(2, 0), -2);
    }

    private static void nothingChanges() {
        CHECKS.refused("meeting(0, 0)", x -> x.meeting(0, 0), 0);
        CHECKS.refused("meeting(11, 3)", x -> x.meeting(11, 3), 1);
    }
}
