/**
 * Promise 13: "The variables on which place f's function depends, as a set (bit v speaks of variable v): those for
 * which changing variable v alone changes the value at some assignment. BAD if f is outside 0..7."
 */
public final class Promise13Test {
    private static final int PLUS = AlgebraicDiagram.PLUS;
    private static final int[] ALL = {0, 0, 3, 7, 15, 31};
    private static final Checks CHECKS = new Checks();

    public static void main(String[] args) {
        for (int variables = 2; variables <= 5; variables++) {
            constantsAndLiterals(variables);
            oneAssignmentIsEnough(variables);
            everyPlace(variables);
            refuses(variables);
        }
        for (int variables = 3; variables <= 5; variables++) {
            jointChanges(variables);
        }
        everySet();
        CHECKS.end();
    }

    private static void constantsAndLiterals(int variables) {
        int[] due = {1, 2, 4, 8, 16};
        Run x = new Run(CHECKS, variables);
        x.due(0).support(0);
        for (int c : new int[] {1, -1, Run.LOWEST, Run.HIGHEST}) {
            x.constant(0, c);
            x.due(0).support(0);
        }
        for (int v = 0; v < variables; v++) {
            x.literal(0, v);
            x.due(due[v]).support(0);
        }
        x.givenNumbers(0);
        x.due(ALL[variables]).support(0);
    }

    /** "changes the value at some assignment": a function that is 1 at one assignment depends on every variable. */
    private static void oneAssignmentIsEnough(int variables) {
        for (int at = 0; at <= ALL[variables]; at++) {
            Run x = new Run(CHECKS, variables);
            x.givenNumbers(0);
            x.constant(1, at);
            x.apply(1, AlgebraicDiagram.EQUAL, 0, 1);
            x.due(1).countOf(1, 1);
            x.due(ALL[variables]).support(1);
            for (int v = 0; v < variables; v++) {
                x.fold(2, PLUS, 1, v);
                x.due(ALL[variables] - (1 << v)).support(2);
            }
        }
    }

    /** "changing variable v alone": of an exclusive or, and of an and, each variable counts. */
    private static void jointChanges(int variables) {
        Run x = new Run(CHECKS, variables);
        x.given(0, 6, 7, 6, 7, 7, 6, 7, 6);
        x.due(5).support(0);
        x.given(0, 0, 0, 0, Run.LOWEST, 0, 0, 0, Run.LOWEST);
        x.due(3).support(0);
        x.given(0, 0, 0, 0, 0, 0, 0, 65536, 65536);
        x.due(6).support(0);
        x.given(0, 0, 1, 1, 0, 1, 0, 0, 1);
        x.due(7).support(0);
        x.given(0, 5, 5, 5, 5, 5, 5, 5, 6);
        x.due(7).support(0);
        x.given(0, 5, 5, 5, 5, 6, 6, 6, 6);
        x.due(4).support(0);
    }

    /** The sum of the literals of a set depends on the variables of that set. */
    private static void everySet() {
        for (int set = 0; set < 32; set++) {
            Run x = new Run(CHECKS, 5);
            for (int v = 0; v < 5; v++) {
                if ((set >> v & 1) == 1) {
                    x.literal(1, v);
                    x.apply(0, PLUS, 0, 1);
                }
            }
            x.due(set).support(0);
        }
    }

    private static void everyPlace(int variables) {
        int[] due = {1, 2, 3, 3, 3, 3, 3, 0};
        Run x = new Run(CHECKS, variables);
        x.givenEight();
        for (int f = 0; f < 8; f++) {
            x.due(due[f]).support(f);
        }
        x.holdsEight();
    }

    /** "BAD if f is outside 0..7." */
    private static void refuses(int variables) {
        Run x = new Run(CHECKS, variables);
        x.givenEight();
        for (int f : Run.NO_PLACES) {
            x.due(Run.BAD).support(f);
        }
        x.holdsEight();
    }
}
