/** The sentences of "Terms", those of more than one promise, with the due answers written out. */
public final class TermsTest {
    private static final int PLUS = AlgebraicDiagram.PLUS;
    private static final int MINUS = AlgebraicDiagram.MINUS;
    private static final int TIMES = AlgebraicDiagram.TIMES;
    private static final Checks CHECKS = new Checks();

    public static void main(String[] args) {
        for (int variables = 2; variables <= 5; variables++) {
            bitsOfAssignments(variables);
            sameFunctionTwice(variables);
            applyOntoWhatItReads(variables);
            chooseOntoWhatItReads(variables);
            foldOntoWhatItReads(variables);
            substituteOntoWhatItReads(variables);
            exchangeOntoWhatItReads(variables);
            partsOfAPart(variables);
        }
        CHECKS.end();
    }

    /** "An ASSIGNMENT is a number from 0 to 2^V - 1 whose bit v (value 1 << v) is the value of variable v." */
    private static void bitsOfAssignments(int variables) {
        int[] bits = {1, 2, 4, 8, 16};
        Run x = new Run(CHECKS, variables);
        for (int f = 0; f < variables; f++) {
            x.literal(f, f);
            x.due(0).valueAt(f, 0);
            for (int v = 0; v < variables; v++) {
                x.due(f == v ? 1 : 0).valueAt(f, bits[v]);
            }
        }
    }

    /** "two places may hold the same function": what is written to the one leaves the other. */
    private static void sameFunctionTwice(int variables) {
        Run x = new Run(CHECKS, variables);
        x.literal(1, 0);
        x.exchange(2, 1, 0, 0);
        x.due(true).same(1, 2);
        x.constant(1, 8);
        x.holds(1, 8);
        x.holds(2, 0, 1);
        x.exchange(1, 2, 1, 1);
        x.constant(2, 7);
        x.holds(1, 0, 1);
        x.holds(2, 7);
    }

    /** "A call that writes place d works on the functions as they were before the call" */
    private static void applyOntoWhatItReads(int variables) {
        Run x = new Run(CHECKS, variables);
        x.given(0, 3, -2, 5, 0);
        x.given(1, 4, -2, -6, 1);
        x.apply(1, MINUS, 0, 1);
        x.holds(1, -1, 0, 11, -1);
        x.apply(0, MINUS, 0, 1);
        x.holds(0, 4, -2, -6, 1);
        x.apply(0, TIMES, 0, 0);
        x.holds(0, 16, 4, 36, 1);
        x.apply(0, MINUS, 0, 0);
        x.holds(0, 0);
        x.holds(1, -1, 0, 11, -1);
    }

    /** "also when d is one of the places that it reads" */
    private static void chooseOntoWhatItReads(int variables) {
        Run x = new Run(CHECKS, variables);
        x.given(0, 0, 1, -1, 0);
        x.given(1, 10, 11, 12, 13);
        x.given(2, 20, 21, 22, 23);
        x.choose(2, 0, 1, 2);
        x.holds(2, 20, 11, 12, 23);
        x.choose(1, 0, 1, 2);
        x.holds(1, 20, 11, 12, 23);
        x.choose(0, 0, 0, 1);
        x.holds(0, 20, 1, -1, 23);
        x.given(0, 0, 1, -1, 0);
        x.choose(0, 0, 1, 0);
        x.holds(0, 0, 11, 12, 0);
        x.choose(0, 0, 0, 0);
        x.holds(0, 0, 11, 12, 0);
    }

    /** "also when d is one of the places that it reads" */
    private static void foldOntoWhatItReads(int variables) {
        Run x = new Run(CHECKS, variables);
        x.given(0, 1, 10, 100, 1000);
        x.fold(0, MINUS, 0, 0);
        x.holds(0, -9, -9, -900, -900);
        x.fold(0, PLUS, 0, 0);
        x.holds(0, -18, -18, -1800, -1800);
        x.fold(0, MINUS, 0, 1);
        x.holds(0, 1782);
        x.given(0, 1, 10, 100, 1000);
        x.fold(0, MINUS, 0, 1);
        x.holds(0, -99, -990);
    }

    /** "also when d is one of the places that it reads" */
    private static void substituteOntoWhatItReads(int variables) {
        Run x = new Run(CHECKS, variables);
        x.given(0, 10, 11, 12, 13);
        x.given(1, 1, 0, 0, 1);
        x.substitute(0, 0, 0, 1);
        x.holds(0, 11, 10, 12, 13);
        x.substitute(1, 0, 1, 1);
        x.holds(1, 12, 10, 11, 13);
        x.given(2, 0, 1, 2, 0);
        x.substitute(2, 2, 0, 2);
        x.holds(2, 0, 1, 0, 2);
        x.given(2, 7, 0, 0, 8);
        x.substitute(2, 2, 0, 2);
        x.holds(2, 0, 7, 0, 8);
    }

    /** "also when d is one of the places that it reads" */
    private static void exchangeOntoWhatItReads(int variables) {
        Run x = new Run(CHECKS, variables);
        x.given(0, 10, 11, 12, 13);
        x.exchange(0, 0, 0, 1);
        x.holds(0, 10, 12, 11, 13);
        x.exchange(0, 0, 1, 1);
        x.holds(0, 10, 12, 11, 13);
        x.exchange(0, 0, 1, 0);
        x.holds(0, 10, 11, 12, 13);
    }

    /**
     * "its value at an assignment is the value of f at the assignment with variables 0 to k-1 replaced by the fixed
     * values": each part of f, given to another place, is one that f has already.
     */
    private static void partsOfAPart(int variables) {
        Run x = new Run(CHECKS, variables);
        x.given(0, 1, 2, 3, 4);
        // Itself, 1 and 3, 2 and 4, then 1, 2, 3 and 4; and the 0 of the other places.
        x.due(8).allParts();
        x.given(1, 1, 1, 3, 3);
        x.due(8).allParts();
        x.given(2, 2, 2, 4, 4);
        x.due(8).allParts();
        x.constant(3, 4);
        x.due(8).allParts();
        // Fixed values of variable 1 alone give no part.
        x.given(7, 1, 2, 1, 2);
        x.due(9).allParts();
    }
}
