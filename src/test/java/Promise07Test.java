/**
 * Promise 7: "Place d becomes, at every assignment x, a's value at x with variable v set to 1 if b's value at x is not
 * 0, and set to 0 if it is 0. d, a or b outside 0..7 or v outside 0..V-1: refused, answers false. Else true."
 */
public final class Promise07Test {
    private static final Checks CHECKS = new Checks();

    public static void main(String[] args) {
        for (int variables = 2; variables <= 5; variables++) {
            substitutesOneOfTwo(variables);
            substitutesByTheVariable(variables);
            substitutesOfEveryPlace(variables);
            refuses(variables);
            refusesSeveral(variables);
        }
        for (int variables = 3; variables <= 5; variables++) {
            substitutesOneOfThree(variables);
            onlyZeroIsZero(variables);
        }
        substitutesTheLast();
        CHECKS.end();
    }

    private static void substitutesOneOfTwo(int variables) {
        Run x = new Run(CHECKS, variables);
        x.given(0, 10, 11, 12, 13);
        x.given(1, 0, 5, -1, 0);
        x.due(true).substitute(2, 0, 0, 1);
        x.holds(2, 10, 11, 13, 12);
        x.due(true).substitute(2, 0, 1, 1);
        x.holds(2, 10, 13, 12, 11);
        x.holds(0, 10, 11, 12, 13);
        x.holds(1, 0, 5, -1, 0);
    }

    private static void substitutesOneOfThree(int variables) {
        Run x = new Run(CHECKS, variables);
        x.given(0, 10, 11, 12, 13, 14, 15, 16, 17);
        x.given(1, 0, 5, -1, 0, Run.LOWEST, 0, 0, 1);
        x.due(true).substitute(2, 0, 0, 1);
        x.holds(2, 10, 11, 13, 12, 15, 14, 16, 17);
        x.due(true).substitute(2, 0, 1, 1);
        x.holds(2, 10, 13, 12, 11, 16, 15, 14, 17);
        x.due(true).substitute(2, 0, 2, 1);
        x.holds(2, 10, 15, 16, 13, 14, 11, 12, 17);
    }

    /** The last variable becomes variable 0; a's value at x is x. */
    private static void substitutesTheLast() {
        int[][] due = {
            {0, 3, 0, 3},
            {0, 5, 2, 7, 0, 5, 2, 7},
            {0, 9, 2, 11, 4, 13, 6, 15, 0, 9, 2, 11, 4, 13, 6, 15},
            {0, 17, 2, 19, 4, 21, 6, 23, 8, 25, 10, 27, 12, 29, 14, 31,
                0, 17, 2, 19, 4, 21, 6, 23, 8, 25, 10, 27, 12, 29, 14, 31}};
        for (int variables = 2; variables <= 5; variables++) {
            Run x = new Run(CHECKS, variables);
            x.givenNumbers(0);
            x.literal(1, 0);
            x.due(true).substitute(2, 0, variables - 1, 1);
            x.holds(2, due[variables - 2]);
        }
    }

    /** "b's value at x", before v is set: the variable itself changes nothing, its opposite every assignment. */
    private static void substitutesByTheVariable(int variables) {
        Run x = new Run(CHECKS, variables);
        x.given(0, 10, 11, 12, 13);
        x.literal(1, 0);
        x.substitute(2, 0, 0, 1);
        x.holds(2, 10, 11, 12, 13);
        x.given(1, 1, 0);
        x.substitute(2, 0, 0, 1);
        x.holds(2, 11, 10, 13, 12);
        x.given(1, 1, 1, 0, 0);
        x.substitute(2, 0, 1, 1);
        x.holds(2, 12, 13, 10, 11);
        x.substitute(2, 0, 0, 1);
        x.holds(2, 11, 11, 12, 12);
    }

    /** "set to 1 if b's value at x is not 0, and set to 0 if it is 0" */
    private static void onlyZeroIsZero(int variables) {
        for (int v = 0; v < variables; v++) {
            Run x = new Run(CHECKS, variables);
            x.literal(0, v);
            x.given(1, 0, 1, -1, 2, 256, 65536, Run.LOWEST, Run.HIGHEST);
            x.substitute(2, 0, v, 1);
            x.holds(2, 0, 1, 1, 1, 1, 1, 1, 1);
            x.given(1, Run.LOWEST + 1, -2, -256, 0, -65536, 0, 1 << 30, 1 << 16);
            x.substitute(2, 0, v, 1);
            x.holds(2, 1, 1, 1, 0, 1, 0, 1, 1);
        }
    }

    /** Each of the eight places as d, as a and as b. */
    private static void substitutesOfEveryPlace(int variables) {
        for (int d = 0; d < 8; d++) {
            int a = (d + 3) % 8;
            int b = (d + 6) % 8;
            Run x = new Run(CHECKS, variables);
            x.constant(d, 3);
            x.literal(a, 0);
            x.literal(b, 1);
            x.due(true).substitute(d, a, 0, b);
            x.holds(d, 0, 0, 1, 1);
            x.due(true).substitute(d, b, 1, a);
            x.holds(d, 0, 1, 0, 1);
            x.due(true).substitute(d, a, 1, b);
            x.holds(d, 0, 1, 0, 1);
            x.holds(a, 0, 1, 0, 1);
            x.holds(b, 0, 0, 1, 1);
        }
    }

    /** "d, a or b outside 0..7 or v outside 0..V-1: refused, answers false." */
    private static void refuses(int variables) {
        Run x = new Run(CHECKS, variables);
        x.givenEight();
        for (int no : Run.NO_PLACES) {
            x.refused().substitute(no, 0, 0, 1);
            x.refused().substitute(7, no, 0, 1);
            x.refused().substitute(7, 0, 0, no);
            x.refused().substitute(no, 0, variables - 1, 1);
            x.refused().substitute(7, no, variables - 1, 1);
            x.refused().substitute(7, 0, variables - 1, no);
        }
        for (int v : Run.noVariables(variables)) {
            x.refused().substitute(7, 0, v, 1);
            x.refused().substitute(0, 7, v, 7);
        }
        x.holdsEight();
    }

    private static void refusesSeveral(int variables) {
        Run x = new Run(CHECKS, variables);
        x.givenEight();
        for (int no : Run.NO_PLACES) {
            x.refused().substitute(no, no, 0, 1);
            x.refused().substitute(no, 0, 0, no);
            x.refused().substitute(7, no, 0, no);
            x.refused().substitute(no, 0, variables, 1);
            x.refused().substitute(7, no, variables, 1);
            x.refused().substitute(7, 0, -1, no);
            x.refused().substitute(no, no, variables, no);
        }
        x.holdsEight();
    }
}
