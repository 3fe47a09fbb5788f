/**
 * "A call that writes place d works on the functions as they were before the call, also when d is one of the places
 * that it reads": every way in which d and the places read can fall together, and apart.
 */
public final class OverlapTest {
    private static final int FIRST = 1;
    private static final int LAST = 3;

    private final Checks checks;
    private final int variables;

    private interface Call {
        void on(Beside both);
    }

    private OverlapTest(Checks checks, int variables) {
        this.checks = checks;
        this.variables = variables;
    }

    public static void main(String[] args) {
        Checks checks = new Checks();
        for (int variables = 2; variables <= 5; variables++) {
            OverlapTest test = new OverlapTest(checks, variables);
            for (int d = FIRST; d <= LAST; d++) {
                for (int a = FIRST; a <= LAST; a++) {
                    test.readingOne(d, a);
                    for (int b = FIRST; b <= LAST; b++) {
                        test.readingTwo(d, a, b);
                        test.readingThree(d, a, b);
                    }
                }
            }
        }
        checks.end();
    }

    private void readingOne(int d, int a) {
        for (int variable = 0; variable < variables; variable++) {
            int v = variable;
            for (int operation = 0; operation < 7; operation++) {
                int op = operation;
                compared(both -> both.fold(d, op, a, v));
            }
            for (int other = 0; other < variables; other++) {
                int u = other;
                compared(both -> both.exchange(d, a, u, v));
            }
        }
    }

    private void readingTwo(int d, int a, int b) {
        for (int operation = 0; operation < 7; operation++) {
            int op = operation;
            compared(both -> both.apply(d, op, a, b));
        }
        for (int variable = 0; variable < variables; variable++) {
            int v = variable;
            compared(both -> both.substitute(d, a, v, b));
        }
    }

    private void readingThree(int d, int a, int b) {
        for (int condition = FIRST; condition <= LAST; condition++) {
            int c = condition;
            compared(both -> both.choose(d, c, a, b));
        }
    }

    private void compared(Call call) {
        Beside both = Beside.withEightFunctions(checks, "overlap, " + variables + " variables", variables);
        clearWhere(both, 2, 0);
        clearWhere(both, 3, variables - 1);
        call.on(both);
        both.compareValues();
    }

    /** Zeros and other values in turn, so that what choose and substitute look at is now the one, now the other. */
    private static void clearWhere(Beside both, int d, int v) {
        both.literal(7, v);
        both.apply(d, AlgebraicDiagram.TIMES, d, 7);
    }
}
