/** Promise 1: a new object, and the sentences of the Terms on what stands "at first". */
public final class Promise01Test {
    private static final Checks CHECKS = new Checks();

    public static void main(String[] args) {
        primeIs13AtFirst();
        degreeIs2AtFirst();
        allHoldsAre0AtFirst();
        holdsHaveOneCoefficientAtFirst();
        objectsKeepToThemselves();
        the512thCallStillAnswers();
        CHECKS.end("Promise 1, a new object");
    }

    private static void primeIs13AtFirst() {
        CHECKS.due("new count(0)", new TurningSums().count(0), 13);
        CHECKS.due("new count(1)", new TurningSums().count(1), 2);
        CHECKS.due("new rest(12, 0)", new TurningSums().rest(12, 0), 6);
        CHECKS.due("new rest(13, 0)", new TurningSums().rest(13, 0), -1);
    }

    private static void degreeIs2AtFirst() {
        CHECKS.due("new count(2)", new TurningSums().count(2), 2);
        CHECKS.due("new rest(7, 1)", new TurningSums().rest(7, 1), 1);
        CHECKS.due("new meeting(2, 0)", new TurningSums().meeting(2, 0), -2);
    }

    private static void allHoldsAre0AtFirst() {
        for (int hold = 0; hold < 6; hold++) {
            CHECKS.due("new at(" + hold + ", 0)", new TurningSums().at(hold, 0), 0);
            CHECKS.due("new size(" + hold + ")", new TurningSums().size(hold), 0);
            CHECKS.due("new same(0, " + hold + ")", new TurningSums().same(0, hold), 1);
        }
        CHECKS.due("new at(6, 0)", new TurningSums().at(6, 0), Given.LEAST);
    }

    private static void holdsHaveOneCoefficientAtFirst() {
        CHECKS.due("new count(3)", new TurningSums().count(3), 1);
        CHECKS.due("new at(0, 1)", new TurningSums().at(0, 1), Given.LEAST);
    }

    private static void objectsKeepToThemselves() {
        TurningSums first = new TurningSums();
        first.prime(199);
        first.degree(11);
        first.unit(0, 5, 0);
        TurningSums second = new TurningSums();
        CHECKS.due("a second object's count(0)", second.count(0), 13);
        CHECKS.due("a second object's at(0, 0)", second.at(0, 0), 0);
        CHECKS.due("the first object's rest(198, 0)", first.rest(198, 0), 99);
        CHECKS.due("the first object's at(0, 0)", first.at(0, 0), 5);
    }

    private static void the512thCallStillAnswers() {
        TurningSums x = new TurningSums();
        x.unit(0, 1, 0);
        for (int call = 2; call < 512; call++) {
            x.join(1, 0, 1, 0);
        }
        CHECKS.due("the 512th call, at(1, 0)", x.at(1, 0), 510);
    }
}
