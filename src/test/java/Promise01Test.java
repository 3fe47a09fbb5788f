/** Promise 1: "V is variables clamped into 2..5. All eight functions are 0 everywhere." */
public final class Promise01Test {
    private static final int LOWEST = Run.LOWEST;
    private static final int HIGHEST = Run.HIGHEST;
    private static final Checks CHECKS = new Checks();

    public static void main(String[] args) {
        clamped(LOWEST, 2, 4);
        clamped(LOWEST + 3, 2, 4);
        clamped(-4, 2, 4);
        clamped(-1, 2, 4);
        clamped(0, 2, 4);
        clamped(1, 2, 4);
        clamped(2, 2, 4);
        clamped(3, 3, 8);
        clamped(4, 4, 16);
        clamped(5, 5, 32);
        clamped(6, 5, 32);
        clamped(7, 5, 32);
        clamped(32, 5, 32);
        clamped(34, 5, 32);
        clamped(258, 5, 32);
        clamped(65538, 5, 32);
        clamped(HIGHEST, 5, 32);
        objectsAreApart();
        CHECKS.end();
    }

    private static void clamped(int given, int v, int assignments) {
        zeroEverywhere(given, assignments);
        hasVariables(given, v, assignments);
    }

    /** "All eight functions are 0 everywhere." */
    private static void zeroEverywhere(int given, int assignments) {
        Run x = new Run(CHECKS, given);
        for (int f = 0; f < 8; f++) {
            for (int at = 0; at < assignments; at++) {
                x.due(0).valueAt(f, at);
            }
            x.due(assignments).countOf(f, 0);
            x.due(0).countOf(f, 1);
            x.due(1).parts(f);
            x.due(0).support(f);
            x.due(0).total(f);
            x.due(true).same(f, 0);
            x.due(true).same(7, f);
        }
        x.due(1).allParts();
    }

    /** "V is variables clamped into 2..5." */
    private static void hasVariables(int given, int v, int assignments) {
        Run x = new Run(CHECKS, given);
        for (int variable = 0; variable < v; variable++) {
            x.literal(0, variable);
        }
        x.refused().literal(0, v);
        x.due(assignments / 2).countOf(0, 1);
        x.due(1).valueAt(0, assignments - 1);
        x.constant(1, 3);
        x.due(3).valueAt(1, assignments - 1);
        x.due(0).valueAt(1, assignments);
        x.due(assignments).countOf(1, 3);
        x.due(3 * assignments).total(1);
    }

    /** An object made later begins anew, and each goes on by itself with its own V. */
    private static void objectsAreApart() {
        Run five = new Run(CHECKS, 5);
        five.givenEight();
        Run two = new Run(CHECKS, 2);
        for (int f = 0; f < 8; f++) {
            two.holds(f, 0);
        }
        two.due(1).allParts();
        two.refused().literal(0, 2);
        five.literal(0, 4);
        two.constant(7, 1);
        five.due(9).valueAt(7, 31);
        five.due(16).countOf(0, 1);
        five.holdsEightBut(0);
        two.due(1).valueAt(7, 3);
        two.due(0).valueAt(7, 4);
    }
}
