/**
 * Promise 6: "Place d becomes, at every assignment x, op of p and q, where p is a's value at x with variable v set to 0
 * and q is a's value at x with variable v set to 1; op as for apply. d or a outside 0..7, op outside 0..6 or v outside
 * 0..V-1: refused, answers false. Else true."
 */
public final class Promise06Test {
    private static final int PLUS = AlgebraicDiagram.PLUS;
    private static final int MINUS = AlgebraicDiagram.MINUS;
    private static final int TIMES = AlgebraicDiagram.TIMES;
    private static final int LEAST = AlgebraicDiagram.LEAST;
    private static final int GREATEST = AlgebraicDiagram.GREATEST;
    private static final int LESS = AlgebraicDiagram.LESS;
    private static final int EQUAL = AlgebraicDiagram.EQUAL;
    private static final int LOWEST = Run.LOWEST;
    private static final int HIGHEST = Run.HIGHEST;
    private static final Checks CHECKS = new Checks();

    public static void main(String[] args) {
        for (int variables = 2; variables <= 5; variables++) {
            foldsOverVariable0(variables);
            foldsOverVariable1(variables);
            foldsOverEveryVariable(variables);
            foldsOfEveryPlace(variables);
            refuses(variables);
            refusesSeveral(variables);
        }
        for (int variables = 3; variables <= 5; variables++) {
            foldsOverVariable2(variables);
        }
        for (int variables = 4; variables <= 5; variables++) {
            wraps(variables);
            comparesAsWholeNumbers(variables);
        }
        foldsOverTheLastOfFive();
        CHECKS.end();
    }

    /** p and q are 3 and -2 where variable 1 is 0, and 5 and -2 where it is 1. */
    private static void foldsOverVariable0(int variables) {
        Run x = new Run(CHECKS, variables);
        x.given(0, 3, -2, 5, -2);
        x.due(true).fold(7, PLUS, 0, 0);
        x.holds(7, 1, 1, 3, 3);
        x.due(true).fold(7, MINUS, 0, 0);
        x.holds(7, 5, 5, 7, 7);
        x.due(true).fold(7, TIMES, 0, 0);
        x.holds(7, -6, -6, -10, -10);
        x.due(true).fold(7, LEAST, 0, 0);
        x.holds(7, -2, -2, -2, -2);
        x.due(true).fold(7, GREATEST, 0, 0);
        x.holds(7, 3, 3, 5, 5);
        x.due(true).fold(7, LESS, 0, 0);
        x.holds(7, 0, 0, 0, 0);
        x.due(true).fold(7, EQUAL, 0, 0);
        x.holds(7, 0, 0, 0, 0);
        x.holds(0, 3, -2, 5, -2);
    }

    /** p and q are 3 and 5 where variable 0 is 0, and -2 and -2 where it is 1. */
    private static void foldsOverVariable1(int variables) {
        Run x = new Run(CHECKS, variables);
        x.given(0, 3, -2, 5, -2);
        x.due(true).fold(7, PLUS, 0, 1);
        x.holds(7, 8, -4, 8, -4);
        x.due(true).fold(7, MINUS, 0, 1);
        x.holds(7, -2, 0, -2, 0);
        x.due(true).fold(7, TIMES, 0, 1);
        x.holds(7, 15, 4, 15, 4);
        x.due(true).fold(7, LEAST, 0, 1);
        x.holds(7, 3, -2, 3, -2);
        x.due(true).fold(7, GREATEST, 0, 1);
        x.holds(7, 5, -2, 5, -2);
        x.due(true).fold(7, LESS, 0, 1);
        x.holds(7, 1, 0, 1, 0);
        x.due(true).fold(7, EQUAL, 0, 1);
        x.holds(7, 0, 1, 0, 1);
        x.holds(0, 3, -2, 5, -2);
    }

    private static void foldsOverVariable2(int variables) {
        Run x = new Run(CHECKS, variables);
        x.given(0, 1, 2, 4, 8, 16, 32, 64, 128);
        x.fold(1, PLUS, 0, 2);
        x.holds(1, 17, 34, 68, 136);
        x.fold(1, MINUS, 0, 2);
        x.holds(1, -15, -30, -60, -120);
        x.fold(1, PLUS, 0, 1);
        x.holds(1, 5, 10, 5, 10, 80, 160, 80, 160);
        x.fold(1, PLUS, 0, 0);
        x.holds(1, 3, 3, 12, 12, 48, 48, 192, 192);
    }

    /** With a's value at x being x, p - q is the weight of variable v, below 0. */
    private static void foldsOverEveryVariable(int variables) {
        int[] due = {-1, -2, -4, -8, -16};
        Run x = new Run(CHECKS, variables);
        x.givenNumbers(0);
        for (int v = 0; v < variables; v++) {
            x.fold(1, MINUS, 0, v);
            x.holds(1, due[v]);
        }
    }

    private static void foldsOverTheLastOfFive() {
        Run x = new Run(CHECKS, 5);
        x.givenNumbers(0);
        x.fold(1, LEAST, 0, 4);
        x.holds(1, 0, 1, 2, 3, 4, 5, 6, 7, 8, 9, 10, 11, 12, 13, 14, 15);
        x.fold(1, GREATEST, 0, 4);
        x.holds(1, 16, 17, 18, 19, 20, 21, 22, 23, 24, 25, 26, 27, 28, 29, 30, 31);
        x.fold(1, LEAST, 0, 3);
        x.holds(1, 0, 1, 2, 3, 4, 5, 6, 7, 0, 1, 2, 3, 4, 5, 6, 7,
                16, 17, 18, 19, 20, 21, 22, 23, 16, 17, 18, 19, 20, 21, 22, 23);
        x.fold(1, GREATEST, 0, 0);
        x.holds(1, 1, 1, 3, 3, 5, 5, 7, 7, 9, 9, 11, 11, 13, 13, 15, 15,
                17, 17, 19, 19, 21, 21, 23, 23, 25, 25, 27, 27, 29, 29, 31, 31);
    }

    /** Each of the eight places as d and as a. */
    private static void foldsOfEveryPlace(int variables) {
        for (int d = 0; d < 8; d++) {
            int a = (d + 5) % 8;
            Run x = new Run(CHECKS, variables);
            x.constant(d, 3);
            x.literal(a, 0);
            x.due(true).fold(d, MINUS, a, 0);
            x.holds(d, -1);
            x.due(true).fold(d, PLUS, a, 1);
            x.holds(d, 0, 2);
            x.holds(a, 0, 1);
        }
    }

    /** "arithmetic wraps as in Java" (Terms); the first eight values are p's and the next eight q's. */
    private static void wraps(int variables) {
        Run x = new Run(CHECKS, variables);
        x.given(0, HIGHEST, HIGHEST, LOWEST, LOWEST, 46341, 65536, LOWEST, 0,
                1, HIGHEST, -1, 1, 46341, 32768, -1, LOWEST);
        x.fold(1, PLUS, 0, 3);
        x.holds(1, LOWEST, -2, HIGHEST, -2147483647, 92682, 98304, HIGHEST, LOWEST);
        x.fold(1, MINUS, 0, 3);
        x.holds(1, 2147483646, 0, -2147483647, HIGHEST, 0, 32768, -2147483647, LOWEST);
        x.fold(1, TIMES, 0, 3);
        x.holds(1, HIGHEST, 1, LOWEST, LOWEST, -2147479015, LOWEST, LOWEST, 0);
    }

    /** The first eight values are p's and the next eight q's. */
    private static void comparesAsWholeNumbers(int variables) {
        Run x = new Run(CHECKS, variables);
        x.given(0, LOWEST, HIGHEST, -2, LOWEST, HIGHEST, 0, LOWEST, -1,
                HIGHEST, LOWEST, HIGHEST, 1, HIGHEST, LOWEST, LOWEST, 0);
        x.fold(1, LEAST, 0, 3);
        x.holds(1, LOWEST, LOWEST, -2, LOWEST, HIGHEST, LOWEST, LOWEST, -1);
        x.fold(1, GREATEST, 0, 3);
        x.holds(1, HIGHEST, HIGHEST, HIGHEST, 1, HIGHEST, 0, LOWEST, 0);
        x.fold(1, LESS, 0, 3);
        x.holds(1, 1, 0, 1, 1, 0, 0, 0, 1);
        x.fold(1, EQUAL, 0, 3);
        x.holds(1, 0, 0, 0, 0, 1, 0, 1, 0);
    }

    /** "d or a outside 0..7, op outside 0..6 or v outside 0..V-1: refused, answers false." */
    private static void refuses(int variables) {
        Run x = new Run(CHECKS, variables);
        x.givenEight();
        for (int no : Run.NO_PLACES) {
            x.refused().fold(no, PLUS, 0, 0);
            x.refused().fold(7, PLUS, no, variables - 1);
        }
        for (int op : Run.NO_OPERATIONS) {
            x.refused().fold(7, op, 0, 0);
            x.refused().fold(0, op, 0, variables - 1);
        }
        for (int v : Run.noVariables(variables)) {
            x.refused().fold(7, PLUS, 0, v);
            x.refused().fold(0, EQUAL, 0, v);
        }
        x.holdsEight();
    }

    private static void refusesSeveral(int variables) {
        Run x = new Run(CHECKS, variables);
        x.givenEight();
        for (int no : Run.NO_PLACES) {
            x.refused().fold(no, PLUS, no, 0);
            x.refused().fold(no, 7, 0, 0);
            x.refused().fold(no, PLUS, 0, variables);
            x.refused().fold(7, -1, no, 0);
            x.refused().fold(7, PLUS, no, -1);
            x.refused().fold(7, no == 8 ? 7 : no, 0, variables);
            x.refused().fold(no, no == 8 ? 7 : no, no, variables);
        }
        x.holdsEight();
    }
}
