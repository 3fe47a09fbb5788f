/** Promise 10: "The number of different parts of place f's function; BAD if f is outside 0..7." */
public final class Promise10Test {
    private static final int PLUS = AlgebraicDiagram.PLUS;
    private static final int TIMES = AlgebraicDiagram.TIMES;
    private static final int[] MOST = {0, 0, 7, 15, 31, 63};
    private static final Checks CHECKS = new Checks();

    public static void main(String[] args) {
        for (int variables = 2; variables <= 5; variables++) {
            partsOfConstants(variables);
            partsOfLiterals(variables);
            partsOfTwoVariables(variables);
            fewestAndMost(variables);
            everyPlace(variables);
            refuses(variables);
        }
        for (int variables = 3; variables <= 5; variables++) {
            firstVariablesAreFixed(variables);
            oneVariableIsMissing(variables);
            partsDifferAtOneAssignment(variables);
        }
        partsOfSumsAndProducts();
        CHECKS.end();
    }

    /** "a function that is the same everywhere": each of its parts is the function itself. */
    private static void partsOfConstants(int variables) {
        Run x = new Run(CHECKS, variables);
        for (int c : new int[] {0, 1, -1, Run.LOWEST, Run.HIGHEST}) {
            x.constant(0, c);
            x.due(1).parts(0);
        }
    }

    /** Itself, for k = 0, and 0 and 1, at the latest for k = V. */
    private static void partsOfLiterals(int variables) {
        Run x = new Run(CHECKS, variables);
        for (int v = 0; v < variables; v++) {
            x.literal(0, v);
            x.due(3).parts(0);
        }
    }

    /** The variables after the second change nothing, so the count is the same for every V. */
    private static void partsOfTwoVariables(int variables) {
        Run x = new Run(CHECKS, variables);
        x.literal(0, 0);
        x.literal(1, 1);
        // For k = 0 the and; for k = 1 0 and literal 1; then 0 and 1.
        x.apply(2, TIMES, 0, 1);
        x.due(4).parts(2);
        // For k = 0 the sum; for k = 1 literal 1 and literal 1 plus 1; then 0, 1 and 2.
        x.apply(2, PLUS, 0, 1);
        x.due(6).parts(2);
        // For k = 0 the exclusive or; for k = 1 literal 1 and its opposite; then 0 and 1.
        x.given(2, 0, 1, 1, 0);
        x.due(5).parts(2);
        // For k = 0 itself; for k = 1 one of 1 and 3 and one of 2 and 4; then 1, 2, 3 and 4.
        x.given(2, 1, 2, 3, 4);
        x.due(7).parts(2);
        // For k = 0 itself; for k = 1 8, and one of 2 and 4; then 8, 2 and 4.
        x.given(2, 8, 2, 8, 4);
        x.due(5).parts(2);
        // For k = 0 itself, for k = 1 too, and then 6 and 7.
        x.given(2, 6, 6, 7, 7);
        x.due(3).parts(2);
        // For k = 0 itself, and for k = 1 and on 6 and 7.
        x.given(2, 6, 7, 6, 7);
        x.due(3).parts(2);
    }

    /** The sum of all literals has 1 + 2 + .. + (V + 1) parts, their product those of its V ends, 0 and 1. */
    private static void partsOfSumsAndProducts() {
        int[] ofSum = {0, 0, 6, 10, 15, 21};
        int[] ofProduct = {0, 0, 4, 5, 6, 7};
        for (int variables = 2; variables <= 5; variables++) {
            Run x = new Run(CHECKS, variables);
            x.constant(1, 1);
            for (int v = 0; v < variables; v++) {
                x.literal(7, v);
                x.apply(0, PLUS, 0, 7);
                x.apply(1, TIMES, 1, 7);
            }
            x.due(ofSum[variables]).parts(0);
            x.due(ofProduct[variables]).parts(1);
        }
    }

    /** "by giving fixed values to the variables 0 to k-1": with the last ones fixed it would be 5 first and then 7. */
    private static void firstVariablesAreFixed(int variables) {
        Run x = new Run(CHECKS, variables);
        x.literal(0, 0);
        x.literal(1, 1);
        x.literal(2, 2);
        x.choose(3, 2, 0, 1);
        x.holds(3, 0, 0, 1, 1, 0, 1, 0, 1);
        x.due(7).parts(3);
        x.choose(3, 0, 2, 1);
        x.holds(3, 0, 0, 1, 0, 0, 1, 1, 1);
        x.due(5).parts(3);
    }

    /** "Two parts are the same iff they have the same value at every assignment", of whatever k they come. */
    private static void oneVariableIsMissing(int variables) {
        Run x = new Run(CHECKS, variables);
        x.given(0, 4, 4, 7, 7, 7, 7, 4, 4);
        x.due(5).parts(0);
        x.given(0, 4, 7, 4, 7, 7, 4, 7, 4);
        x.due(5).parts(0);
        x.given(0, 4, 7, 7, 4, 4, 7, 7, 4);
        x.due(5).parts(0);
    }

    /** "at every assignment": the parts for k = 1 of the first function are the same, those of the others are not. */
    private static void partsDifferAtOneAssignment(int variables) {
        int[][] unlike = {{9, 1, 2, 2, 3, 3, 4, 4}, {1, 1, 9, 2, 3, 3, 4, 4}, {1, 1, 2, 2, 3, 9, 4, 4},
            {1, 1, 2, 2, 3, 3, 4, 9}};
        Run alike = new Run(CHECKS, variables);
        alike.given(0, 1, 1, 2, 2, 3, 3, 4, 4);
        alike.due(7).parts(0);
        for (int[] values : unlike) {
            Run x = new Run(CHECKS, variables);
            x.given(0, values);
            x.due(11).parts(0);
        }
    }

    /** One part where all values are the same, 1 + 2 + .. + 2^V where all are different. */
    private static void fewestAndMost(int variables) {
        Run x = new Run(CHECKS, variables);
        x.due(1).parts(0);
        x.givenNumbers(0);
        x.due(MOST[variables]).parts(0);
        x.due(MOST[variables]).parts(0);
        x.due(1).parts(1);
        x.constant(1, Run.LOWEST);
        x.apply(1, PLUS, 1, 0);
        x.due(MOST[variables]).parts(1);
        x.due(MOST[variables]).parts(0);
        x.constant(0, 3);
        x.due(1).parts(0);
        x.due(MOST[variables]).parts(1);
    }

    /** The parts of one place are asked for, whatever the others hold; asking changes none of them. */
    private static void everyPlace(int variables) {
        int[] due = {3, 3, 6, 6, 4, 4, 5, 1};
        Run x = new Run(CHECKS, variables);
        x.givenEight();
        for (int f = 0; f < 8; f++) {
            x.due(due[f]).parts(f);
        }
        for (int f = 7; f >= 0; f--) {
            x.due(due[f]).parts(f);
        }
        x.holdsEight();
    }

    /** "BAD if f is outside 0..7." */
    private static void refuses(int variables) {
        Run x = new Run(CHECKS, variables);
        x.givenEight();
        for (int f : Run.NO_PLACES) {
            x.due(Run.BAD).parts(f);
        }
        x.due(3).parts(0);
        x.due(1).parts(7);
        x.holdsEight();
    }
}
