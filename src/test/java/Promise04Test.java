/**
 * Promise 4: "Place d becomes, at every assignment, op of a's value p and b's value q: PLUS p + q, MINUS p - q, TIMES
 * p * q, LEAST the smaller, GREATEST the greater, LESS 1 if p < q else 0, EQUAL 1 if p = q else 0. d, a or b outside
 * 0..7 or op outside 0..6: refused, answers false. Else true."
 */
public final class Promise04Test {
    private static final int PLUS = AlgebraicDiagram.PLUS;
    private static final int MINUS = AlgebraicDiagram.MINUS;
    private static final int TIMES = AlgebraicDiagram.TIMES;
    private static final int LEAST = AlgebraicDiagram.LEAST;
    private static final int GREATEST = AlgebraicDiagram.GREATEST;
    private static final int LESS = AlgebraicDiagram.LESS;
    private static final int EQUAL = AlgebraicDiagram.EQUAL;
    private static final int LOWEST = Run.LOWEST;
    private static final int HIGHEST = Run.HIGHEST;
    private static final Checks CHECKS = new Checks();

    public static void main(String[] args) {
        for (int variables = 2; variables <= 5; variables++) {
            combinesSmallValues(variables);
            combinesEveryPlace(variables);
            refusesPlaces(variables);
            refusesOperations(variables);
        }
        for (int variables = 3; variables <= 5; variables++) {
            sumsWrap(variables);
            differencesWrap(variables);
            productsWrap(variables);
            comparesAsWholeNumbers(variables);
        }
        CHECKS.end();
    }

    private static void combinesSmallValues(int variables) {
        Run x = new Run(CHECKS, variables);
        x.given(0, 3, -2, 5, 0);
        x.given(1, 4, -2, -6, 1);
        x.due(true).apply(2, PLUS, 0, 1);
        x.holds(2, 7, -4, -1, 1);
        x.due(true).apply(2, MINUS, 0, 1);
        x.holds(2, -1, 0, 11, -1);
        x.due(true).apply(2, TIMES, 0, 1);
        x.holds(2, 12, 4, -30, 0);
        x.due(true).apply(2, LEAST, 0, 1);
        x.holds(2, 3, -2, -6, 0);
        x.due(true).apply(2, GREATEST, 0, 1);
        x.holds(2, 4, -2, 5, 1);
        x.due(true).apply(2, LESS, 0, 1);
        x.holds(2, 1, 0, 0, 1);
        x.due(true).apply(2, EQUAL, 0, 1);
        x.holds(2, 0, 1, 0, 0);
        x.holds(0, 3, -2, 5, 0);
        x.holds(1, 4, -2, -6, 1);
    }

    /** Each of the eight places as d, as a and as b, with a and b either way round. */
    private static void combinesEveryPlace(int variables) {
        for (int f = 0; f < 8; f++) {
            int a = (f + 3) % 8;
            int b = (f + 6) % 8;
            Run x = new Run(CHECKS, variables);
            x.constant(f, 1);
            x.constant(a, 20);
            x.constant(b, 300);
            x.due(true).apply(f, MINUS, a, b);
            x.holds(f, -280);
            x.due(true).apply(f, MINUS, b, a);
            x.holds(f, 280);
            x.due(true).apply(f, LESS, a, b);
            x.holds(f, 1);
            x.due(true).apply(f, LESS, b, a);
            x.holds(f, 0);
            x.holds(a, 20);
            x.holds(b, 300);
        }
    }

    /** "arithmetic wraps as in Java" (Terms) */
    private static void sumsWrap(int variables) {
        Run x = new Run(CHECKS, variables);
        x.given(0, HIGHEST, HIGHEST, LOWEST, LOWEST, HIGHEST, LOWEST, LOWEST, 2000000000);
        x.given(1, 0, 1, 0, -1, HIGHEST, LOWEST, HIGHEST, 2000000000);
        x.apply(2, PLUS, 0, 1);
        x.holds(2, HIGHEST, LOWEST, LOWEST, HIGHEST, -2, 0, -1, -294967296);
    }

    /** "arithmetic wraps as in Java" (Terms) */
    private static void differencesWrap(int variables) {
        Run x = new Run(CHECKS, variables);
        x.given(0, LOWEST, LOWEST, HIGHEST, -1, 0, 0, LOWEST, HIGHEST);
        x.given(1, 0, 1, -1, LOWEST, LOWEST, HIGHEST, HIGHEST, LOWEST);
        x.apply(2, MINUS, 0, 1);
        x.holds(2, LOWEST, HIGHEST, LOWEST, HIGHEST, LOWEST, -2147483647, 1, -1);
    }

    /** "arithmetic wraps as in Java" (Terms) */
    private static void productsWrap(int variables) {
        Run x = new Run(CHECKS, variables);
        x.given(0, 46340, 46341, 65536, 65536, 65536, 65537, LOWEST, HIGHEST);
        x.given(1, 46340, 46341, 32767, 32768, 65536, 65537, -1, HIGHEST);
        x.apply(2, TIMES, 0, 1);
        x.holds(2, 2147395600, -2147479015, 2147418112, LOWEST, 0, 131073, LOWEST, 1);
    }

    /** p and q themselves are compared, also where their difference would wrap. */
    private static void comparesAsWholeNumbers(int variables) {
        Run x = new Run(CHECKS, variables);
        x.given(0, LOWEST, HIGHEST, -2, LOWEST, HIGHEST, 0, LOWEST, -1);
        x.given(1, HIGHEST, LOWEST, HIGHEST, 1, HIGHEST, LOWEST, LOWEST, 0);
        x.apply(2, LEAST, 0, 1);
        x.holds(2, LOWEST, LOWEST, -2, LOWEST, HIGHEST, LOWEST, LOWEST, -1);
        x.apply(2, GREATEST, 0, 1);
        x.holds(2, HIGHEST, HIGHEST, HIGHEST, 1, HIGHEST, 0, LOWEST, 0);
        x.apply(2, LESS, 0, 1);
        x.holds(2, 1, 0, 1, 1, 0, 0, 0, 1);
        x.apply(2, EQUAL, 0, 1);
        x.holds(2, 0, 0, 0, 0, 1, 0, 1, 0);
    }

    /** "d, a or b outside 0..7 [..]: refused, answers false." */
    private static void refusesPlaces(int variables) {
        Run x = new Run(CHECKS, variables);
        x.givenEight();
        for (int no : Run.NO_PLACES) {
            x.refused().apply(no, PLUS, 0, 1);
            x.refused().apply(2, PLUS, no, 1);
            x.refused().apply(2, PLUS, 0, no);
            x.refused().apply(no, EQUAL, no, 7);
            x.refused().apply(no, EQUAL, 7, no);
            x.refused().apply(7, EQUAL, no, no);
            x.refused().apply(no, EQUAL, no, no);
        }
        x.holdsEight();
    }

    /** "op outside 0..6: refused, answers false." */
    private static void refusesOperations(int variables) {
        Run x = new Run(CHECKS, variables);
        x.givenEight();
        for (int op : Run.NO_OPERATIONS) {
            x.refused().apply(2, op, 0, 1);
            x.refused().apply(7, op, 7, 7);
            x.refused().apply(-1, op, 0, 1);
            x.refused().apply(2, op, 8, 1);
            x.refused().apply(2, op, 0, 8);
        }
        x.holdsEight();
    }
}
