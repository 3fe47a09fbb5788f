/** Promise 12: "Whether two places hold the same function; false if f or g is outside 0..7." */
public final class Promise12Test {
    private static final int PLUS = AlgebraicDiagram.PLUS;
    private static final int[] ASSIGNMENTS = {0, 0, 4, 8, 16, 32};
    private static final Checks CHECKS = new Checks();

    public static void main(String[] args) {
        for (int variables = 2; variables <= 5; variables++) {
            everyPair(variables);
            madeInDifferentWays(variables);
            differsAtOneAssignment(variables);
            refuses(variables);
        }
        CHECKS.end();
    }

    /** All eight are 0 at first, then each is different, then only 0 and 7 are the same. */
    private static void everyPair(int variables) {
        Run x = new Run(CHECKS, variables);
        for (int f = 0; f < 8; f++) {
            for (int g = 0; g < 8; g++) {
                x.due(true).same(f, g);
            }
        }
        x.givenEight();
        for (int f = 0; f < 8; f++) {
            for (int g = 0; g < 8; g++) {
                x.due(f == g).same(f, g);
            }
        }
        x.literal(7, 0);
        x.due(true).same(0, 7);
        x.due(true).same(7, 0);
        x.due(false).same(7, 1);
        x.holdsEightBut(7);
    }

    /** The function counts, and not the calls that made it. */
    private static void madeInDifferentWays(int variables) {
        Run x = new Run(CHECKS, variables);
        x.literal(0, 0);
        x.literal(1, 1);
        x.apply(2, PLUS, 0, 1);
        x.apply(3, PLUS, 1, 0);
        x.due(true).same(2, 3);
        x.exchange(3, 0, 0, 1);
        x.due(true).same(1, 3);
        x.due(false).same(0, 3);
        x.constant(3, 1);
        x.apply(4, AlgebraicDiagram.EQUAL, 0, 0);
        x.due(true).same(4, 3);
        x.constant(3, Run.LOWEST);
        x.apply(4, PLUS, 3, 3);
        x.due(true).same(4, 7);
        x.due(false).same(3, 7);
    }

    private static void differsAtOneAssignment(int variables) {
        for (int at = 0; at < ASSIGNMENTS[variables]; at++) {
            Run x = new Run(CHECKS, variables);
            x.givenNumbers(0);
            x.givenNumbers(1);
            x.due(true).same(0, 1);
            x.constant(2, at);
            x.apply(2, AlgebraicDiagram.EQUAL, 2, 0);
            x.due(1).countOf(2, 1);
            x.apply(1, PLUS, 1, 2);
            x.due(at + 1).valueAt(1, at);
            x.due(false).same(0, 1);
            x.due(false).same(1, 0);
            x.due(true).same(1, 1);
        }
    }

    /** "false if f or g is outside 0..7", also for a place beside itself. */
    private static void refuses(int variables) {
        Run x = new Run(CHECKS, variables);
        for (int no : Run.NO_PLACES) {
            x.due(false).same(no, no);
            x.due(false).same(no, 0);
            x.due(false).same(0, no);
            x.due(false).same(no, 7);
            x.due(false).same(7, no);
            x.due(false).same(no, 8);
            x.due(false).same(-1, no);
        }
        for (int f = 0; f < 8; f++) {
            x.holds(f, 0);
        }
    }
}
