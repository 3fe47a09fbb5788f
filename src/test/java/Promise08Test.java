/**
 * Promise 8: "Place d becomes, at every assignment x, a's value at x with the values of variables u and v exchanged. d
 * or a outside 0..7 or u or v outside 0..V-1: refused, answers false. Else true (u = v: d becomes a)."
 */
public final class Promise08Test {
    private static final Checks CHECKS = new Checks();

    public static void main(String[] args) {
        for (int variables = 2; variables <= 5; variables++) {
            exchangesTwoOfTwo(variables);
            exchangesOneWithItself(variables);
            exchangesOfEveryPlace(variables);
            refuses(variables);
            refusesSeveral(variables);
        }
        for (int variables = 3; variables <= 5; variables++) {
            exchangesTwoOfThree(variables);
        }
        exchangesFirstAndLast();
        CHECKS.end();
    }

    private static void exchangesTwoOfTwo(int variables) {
        Run x = new Run(CHECKS, variables);
        x.given(0, 10, 11, 12, 13);
        x.due(true).exchange(1, 0, 0, 1);
        x.holds(1, 10, 12, 11, 13);
        x.due(true).exchange(2, 0, 1, 0);
        x.holds(2, 10, 12, 11, 13);
        x.due(true).exchange(2, 1, 0, 1);
        x.holds(2, 10, 11, 12, 13);
        x.holds(0, 10, 11, 12, 13);
    }

    private static void exchangesTwoOfThree(int variables) {
        Run x = new Run(CHECKS, variables);
        x.given(0, 10, 11, 12, 13, 14, 15, 16, 17);
        x.due(true).exchange(1, 0, 0, 1);
        x.holds(1, 10, 12, 11, 13, 14, 16, 15, 17);
        x.due(true).exchange(1, 0, 0, 2);
        x.holds(1, 10, 14, 12, 16, 11, 15, 13, 17);
        x.due(true).exchange(1, 0, 2, 0);
        x.holds(1, 10, 14, 12, 16, 11, 15, 13, 17);
        x.due(true).exchange(1, 0, 1, 2);
        x.holds(1, 10, 11, 14, 15, 12, 13, 16, 17);
        x.due(true).exchange(1, 0, 2, 1);
        x.holds(1, 10, 11, 14, 15, 12, 13, 16, 17);
    }

    /** a's value at x is x. */
    private static void exchangesFirstAndLast() {
        int[][] due = {
            {0, 2, 1, 3},
            {0, 4, 2, 6, 1, 5, 3, 7},
            {0, 8, 2, 10, 4, 12, 6, 14, 1, 9, 3, 11, 5, 13, 7, 15},
            {0, 16, 2, 18, 4, 20, 6, 22, 8, 24, 10, 26, 12, 28, 14, 30,
                1, 17, 3, 19, 5, 21, 7, 23, 9, 25, 11, 27, 13, 29, 15, 31}};
        for (int variables = 2; variables <= 5; variables++) {
            Run x = new Run(CHECKS, variables);
            x.givenNumbers(0);
            x.due(true).exchange(1, 0, 0, variables - 1);
            x.holds(1, due[variables - 2]);
            x.due(true).exchange(1, 0, variables - 1, 0);
            x.holds(1, due[variables - 2]);
        }
    }

    /** "(u = v: d becomes a)" */
    private static void exchangesOneWithItself(int variables) {
        for (int v = 0; v < variables; v++) {
            Run x = new Run(CHECKS, variables);
            x.given(0, 10, 11, 12, 13);
            x.constant(1, 5);
            x.due(true).exchange(1, 0, v, v);
            x.holds(1, 10, 11, 12, 13);
            x.due(true).exchange(0, 0, v, v);
            x.holds(0, 10, 11, 12, 13);
        }
    }

    /** Each of the eight places as d and as a. */
    private static void exchangesOfEveryPlace(int variables) {
        for (int d = 0; d < 8; d++) {
            int a = (d + 5) % 8;
            Run x = new Run(CHECKS, variables);
            x.constant(d, 3);
            x.literal(a, 0);
            x.due(true).exchange(d, a, 0, 1);
            x.holds(d, 0, 0, 1, 1);
            x.holds(a, 0, 1, 0, 1);
        }
    }

    /** "d or a outside 0..7 or u or v outside 0..V-1: refused, answers false." */
    private static void refuses(int variables) {
        Run x = new Run(CHECKS, variables);
        x.givenEight();
        for (int no : Run.NO_PLACES) {
            x.refused().exchange(no, 0, 0, 1);
            x.refused().exchange(7, no, 0, 1);
            x.refused().exchange(no, 0, 0, 0);
            x.refused().exchange(7, no, variables - 1, variables - 1);
        }
        for (int no : Run.noVariables(variables)) {
            x.refused().exchange(7, 0, no, 0);
            x.refused().exchange(7, 0, 0, no);
            x.refused().exchange(0, 0, no, variables - 1);
            x.refused().exchange(0, 0, variables - 1, no);
            x.refused().exchange(7, 0, no, no);
        }
        x.holdsEight();
    }

    private static void refusesSeveral(int variables) {
        Run x = new Run(CHECKS, variables);
        x.givenEight();
        for (int no : Run.NO_PLACES) {
            x.refused().exchange(no, no, 0, 1);
            x.refused().exchange(no, 0, variables, 0);
            x.refused().exchange(no, 0, 0, variables);
            x.refused().exchange(7, no, variables, 0);
            x.refused().exchange(7, no, 0, variables);
            x.refused().exchange(no, no, variables, variables);
        }
        x.refused().exchange(7, 0, -1, variables);
        x.refused().exchange(7, 0, variables, -1);
        x.holdsEight();
    }
}
