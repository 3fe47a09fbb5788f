/**
 * Promise 5: "Place d becomes, at every assignment, a's value where c's value is not 0 and b's value where it is 0.
 * d, c, a or b outside 0..7: refused, answers false. Else true."
 */
public final class Promise05Test {
    private static final Checks CHECKS = new Checks();

    public static void main(String[] args) {
        for (int variables = 2; variables <= 5; variables++) {
            choosesAtEveryAssignment(variables);
            choosesOfEveryPlace(variables);
            refuses(variables);
            refusesWhatIsNotNeeded(variables);
        }
        for (int variables = 3; variables <= 5; variables++) {
            onlyZeroIsZero(variables);
        }
        CHECKS.end();
    }

    private static void choosesAtEveryAssignment(int variables) {
        Run x = new Run(CHECKS, variables);
        x.given(0, 0, 1, -1, 0);
        x.given(1, 10, 11, 12, 13);
        x.given(2, 20, 21, 22, 23);
        x.due(true).choose(3, 0, 1, 2);
        x.holds(3, 20, 11, 12, 23);
        x.due(true).choose(3, 0, 2, 1);
        x.holds(3, 10, 21, 22, 13);
        x.due(true).choose(3, 0, 1, 1);
        x.holds(3, 10, 11, 12, 13);
        x.due(true).choose(3, 1, 2, 0);
        x.holds(3, 20, 21, 22, 23);
        x.due(true).choose(3, 7, 2, 0);
        x.holds(3, 0, 1, -1, 0);
    }

    /** Each of the eight places as d, as c, as a and as b. */
    private static void choosesOfEveryPlace(int variables) {
        for (int d = 0; d < 8; d++) {
            int c = (d + 1) % 8;
            int a = (d + 3) % 8;
            int b = (d + 6) % 8;
            Run x = new Run(CHECKS, variables);
            x.constant(d, 1);
            x.literal(c, 0);
            x.constant(a, 20);
            x.constant(b, 300);
            x.due(true).choose(d, c, a, b);
            x.holds(d, 300, 20);
            x.holds(c, 0, 1);
            x.holds(a, 20);
            x.holds(b, 300);
        }
    }

    /** "a's value where c's value is not 0 and b's value where it is 0" */
    private static void onlyZeroIsZero(int variables) {
        Run x = new Run(CHECKS, variables);
        x.constant(1, 5);
        x.constant(2, 6);
        x.given(0, 0, 1, -1, 2, 256, 65536, Run.LOWEST, Run.HIGHEST);
        x.choose(3, 0, 1, 2);
        x.holds(3, 6, 5, 5, 5, 5, 5, 5, 5);
        x.given(0, Run.LOWEST + 1, -2, -256, 0, -65536, 0, 1 << 30, 1 << 16);
        x.choose(3, 0, 1, 2);
        x.holds(3, 5, 5, 5, 6, 5, 6, 5, 5);
    }

    /** "d, c, a or b outside 0..7: refused, answers false." */
    private static void refuses(int variables) {
        Run x = new Run(CHECKS, variables);
        x.givenEight();
        for (int no : Run.NO_PLACES) {
            x.refused().choose(no, 0, 1, 2);
            x.refused().choose(3, no, 1, 2);
            x.refused().choose(3, 0, no, 2);
            x.refused().choose(3, 0, 1, no);
            x.refused().choose(no, no, 1, 2);
            x.refused().choose(3, 0, no, no);
            x.refused().choose(no, no, no, no);
        }
        x.holdsEight();
    }

    /** An a or b outside is refused also where c's values would never choose it. */
    private static void refusesWhatIsNotNeeded(int variables) {
        Run x = new Run(CHECKS, variables);
        x.givenEight();
        x.constant(0, 0);
        for (int no : Run.NO_PLACES) {
            x.refused().choose(3, 0, no, 2);
            x.refused().choose(3, 7, 1, no);
        }
        x.holdsEightBut(0);
        x.holds(0, 0);
    }
}
