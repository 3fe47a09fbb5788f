/** Ways to give a place a whole table of values by calls of the document alone. */
final class Tables {
    private Tables() {
    }

    /** Place d gets these values, 2^V of them; places 5 and 6 are worked on and are 0 afterwards. */
    static void fill(AlgebraicDiagram x, int d, int... values) {
        int variables = Integer.numberOfTrailingZeros(values.length);
        x.constant(d, 0);
        for (int at = 0; at < values.length; at++) {
            point(x, 5, at, variables);
            x.constant(6, values[at]);
            x.apply(5, AlgebraicDiagram.TIMES, 5, 6);
            x.apply(d, AlgebraicDiagram.PLUS, d, 5);
        }
        x.constant(5, 0);
        x.constant(6, 0);
    }

    /** Place d becomes 1 at one assignment and 0 elsewhere; place 6 is worked on and is 0 afterwards. */
    static void point(AlgebraicDiagram x, int d, int at, int variables) {
        x.constant(d, 1);
        for (int v = 0; v < variables; v++) {
            x.literal(6, v);
            int op = (at >> v & 1) == 1 ? AlgebraicDiagram.TIMES : AlgebraicDiagram.LESS;
            x.apply(d, op, 6, d);
        }
        x.constant(6, 0);
    }

    /** Place d gets at every assignment the assignment's number; place 6 is worked on and is 0 afterwards. */
    static void number(AlgebraicDiagram x, int d, int variables) {
        x.constant(d, 0);
        for (int v = variables - 1; v >= 0; v--) {
            x.apply(d, AlgebraicDiagram.PLUS, d, d);
            x.literal(6, v);
            x.apply(d, AlgebraicDiagram.PLUS, d, 6);
        }
        x.constant(6, 0);
    }
}
