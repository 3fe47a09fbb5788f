/**
 * Promise 3: "Place d becomes 1 where variable v is 1 and 0 where it is 0. d outside 0..7 or v outside 0..V-1: refused,
 * false. Else true."
 */
public final class Promise03Test {
    /** Bit v of an assignment is the value of variable v. */
    private static final int[][] LITERALS = {
        {0, 1},
        {0, 0, 1, 1},
        {0, 0, 0, 0, 1, 1, 1, 1},
        {0, 0, 0, 0, 0, 0, 0, 0, 1, 1, 1, 1, 1, 1, 1, 1},
        {0, 0, 0, 0, 0, 0, 0, 0, 0, 0, 0, 0, 0, 0, 0, 0, 1, 1, 1, 1, 1, 1, 1, 1, 1, 1, 1, 1, 1, 1, 1, 1}};
    private static final Checks CHECKS = new Checks();

    public static void main(String[] args) {
        for (int variables = 2; variables <= 5; variables++) {
            becomesTheVariable(variables);
            refuses(variables);
        }
        CHECKS.end();
    }

    /** "Place d becomes 1 where variable v is 1 and 0 where it is 0." */
    private static void becomesTheVariable(int variables) {
        for (int d = 0; d < 8; d++) {
            for (int v = 0; v < variables; v++) {
                Run x = new Run(CHECKS, variables);
                x.givenEight();
                x.due(true).literal(d, v);
                x.holds(d, LITERALS[v]);
                x.holdsEightBut(d);
            }
        }
    }

    /** "d outside 0..7 or v outside 0..V-1: refused, false." */
    private static void refuses(int variables) {
        Run x = new Run(CHECKS, variables);
        x.givenEight();
        for (int d : Run.NO_PLACES) {
            x.refused().literal(d, 0);
            x.refused().literal(d, variables - 1);
            x.refused().literal(d, -1);
            x.refused().literal(d, variables);
        }
        for (int v : Run.noVariables(variables)) {
            x.refused().literal(0, v);
            x.refused().literal(7, v);
        }
        x.holdsEight();
    }
}
