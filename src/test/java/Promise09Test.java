/**
 * Promise 9: "The value of place f's function at an assignment; 0 if f is outside 0..7 or the assignment outside
 * 0 .. 2^V - 1."
 */
public final class Promise09Test {
    private static final int[] ASSIGNMENTS = {0, 0, 4, 8, 16, 32};
    private static final Checks CHECKS = new Checks();

    public static void main(String[] args) {
        for (int variables = 2; variables <= 5; variables++) {
            firstAndLastAssignment(variables);
            assignmentsOutside(variables);
            placesOutside(variables);
        }
        everyAssignment();
        everyInt();
        CHECKS.end();
    }

    /** Each variable shows as a digit of its own in the value. */
    private static void everyAssignment() {
        Run x = new Run(CHECKS, 3);
        int[] weights = {1, 20, 300};
        for (int v = 0; v < 3; v++) {
            x.literal(v, v);
            x.constant(7, weights[v]);
            x.apply(v, AlgebraicDiagram.TIMES, v, 7);
        }
        x.apply(3, AlgebraicDiagram.PLUS, 0, 1);
        x.apply(3, AlgebraicDiagram.PLUS, 3, 2);
        x.due(0).valueAt(3, 0);
        x.due(1).valueAt(3, 1);
        x.due(20).valueAt(3, 2);
        x.due(21).valueAt(3, 3);
        x.due(300).valueAt(3, 4);
        x.due(301).valueAt(3, 5);
        x.due(320).valueAt(3, 6);
        x.due(321).valueAt(3, 7);
    }

    private static void everyInt() {
        Run x = new Run(CHECKS, 2);
        x.given(0, Run.LOWEST, Run.HIGHEST, -1, 65536);
        x.due(-2147483648).valueAt(0, 0);
        x.due(2147483647).valueAt(0, 1);
        x.due(-1).valueAt(0, 2);
        x.due(65536).valueAt(0, 3);
    }

    private static void firstAndLastAssignment(int variables) {
        Run x = new Run(CHECKS, variables);
        int end = ASSIGNMENTS[variables];
        for (int f = 0; f < 8; f++) {
            x.constant(f, 100 + f);
        }
        for (int f = 0; f < 8; f++) {
            x.due(0).valueAt(f, -1);
            x.due(100 + f).valueAt(f, 0);
            x.due(100 + f).valueAt(f, end - 1);
            x.due(0).valueAt(f, end);
        }
    }

    /** No place has a 0, so that a value read from elsewhere would show. */
    private static void assignmentsOutside(int variables) {
        Run x = new Run(CHECKS, variables);
        int end = ASSIGNMENTS[variables];
        for (int f = 0; f < 8; f++) {
            x.constant(f, 100 + f);
        }
        int[] outside = {-1, end, end + 1, -2, -end, 32, 33, 64, 256, 65536, Run.LOWEST, Run.LOWEST + 1, Run.HIGHEST};
        for (int f = 0; f < 8; f++) {
            for (int assignment : outside) {
                x.due(0).valueAt(f, assignment);
            }
        }
        for (int f = 0; f < 8; f++) {
            x.holds(f, 100 + f);
        }
    }

    private static void placesOutside(int variables) {
        Run x = new Run(CHECKS, variables);
        int end = ASSIGNMENTS[variables];
        for (int f = 0; f < 8; f++) {
            x.constant(f, 100 + f);
        }
        for (int no : Run.NO_PLACES) {
            x.due(0).valueAt(no, 0);
            x.due(0).valueAt(no, end - 1);
            x.due(0).valueAt(no, end);
            x.due(0).valueAt(no, -1);
            x.due(0).valueAt(no, -no);
        }
        for (int f = 0; f < 8; f++) {
            x.holds(f, 100 + f);
        }
    }
}
