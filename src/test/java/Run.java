/**
 * A run of calls on a new object, each answer set beside the due one that the test writes out. No run is longer than
 * the 512 calls of the document, since what later calls answer is free.
 */
final class Run {
    static final int LOWEST = Integer.MIN_VALUE;
    static final int HIGHEST = Integer.MAX_VALUE;
    /** As the document has it; FaceTest looks whether the program's own constant is the same. */
    static final int BAD = -1;

    /** Beside the first ones outside, numbers that a shift, a mask or a narrower type would take for an allowed one. */
    static final int[] NO_PLACES = {-1, 8, -2, -8, 9, 16, 32, 256, 65536, -256, LOWEST, LOWEST + 1, HIGHEST};
    static final int[] NO_OPERATIONS = {-1, 7, -2, -7, 8, 16, 32, 256, 65536, -256, LOWEST, LOWEST + 1, HIGHEST};

    private static final int MOST_CALLS = 512;
    /** What givenEight puts into the places 0 to 7, for the variables 0 and 1 as 00, 10, 01 and 11. */
    private static final int[][] EIGHT = {{0, 1, 0, 1}, {0, 0, 1, 1}, {0, 1, 1, 2}, {0, 1, -1, 0}, {0, 0, 0, 1},
        {0, 0, 1, 0}, {1, 0, 0, 1}, {9, 9, 9, 9}};

    private final Checks checks;
    private final int variables;
    private final AlgebraicDiagram program;
    private int calls = 0;
    private boolean isDueTold = false;
    private long dueNext = 0;

    Run(Checks checks, int variables) {
        this.checks = checks;
        this.variables = variables;
        this.program = new AlgebraicDiagram(variables);
    }

    static int[] noVariables(int variables) {
        return new int[] {-1, variables, -2, 5, 6, 31, 32, 33, 64, 256, 65536, -256, LOWEST, LOWEST + 1, HIGHEST};
    }

    /** The next call must answer this. Without it, a call that writes must answer true. */
    Run due(long answer) {
        isDueTold = true;
        dueNext = answer;
        return this;
    }

    Run due(boolean answer) {
        return due(answer ? 1L : 0L);
    }

    Run refused() {
        return due(false);
    }

    void constant(int d, int c) {
        written("constant(" + d + ", " + c + ")", program.constant(d, c));
    }

    void literal(int d, int v) {
        written("literal(" + d + ", " + v + ")", program.literal(d, v));
    }

    void apply(int d, int op, int a, int b) {
        written("apply(" + listed(d, op, a, b) + ")", program.apply(d, op, a, b));
    }

    void choose(int d, int c, int a, int b) {
        written("choose(" + listed(d, c, a, b) + ")", program.choose(d, c, a, b));
    }

    void fold(int d, int op, int a, int v) {
        written("fold(" + listed(d, op, a, v) + ")", program.fold(d, op, a, v));
    }

    void substitute(int d, int a, int v, int b) {
        written("substitute(" + listed(d, a, v, b) + ")", program.substitute(d, a, v, b));
    }

    void exchange(int d, int a, int u, int v) {
        written("exchange(" + listed(d, a, u, v) + ")", program.exchange(d, a, u, v));
    }

    void valueAt(int f, int assignment) {
        answered("valueAt(" + f + ", " + assignment + ")", program.valueAt(f, assignment));
    }

    void parts(int f) {
        answered("parts(" + f + ")", program.parts(f));
    }

    void countOf(int f, int c) {
        answered("countOf(" + f + ", " + c + ")", program.countOf(f, c));
    }

    void same(int f, int g) {
        answered("same(" + f + ", " + g + ")", program.same(f, g) ? 1L : 0L);
    }

    void support(int f) {
        answered("support(" + f + ")", program.support(f));
    }

    void total(int f) {
        answered("total(" + f + ")", program.total(f));
    }

    void allParts() {
        answered("allParts()", program.allParts());
    }

    /** Place f has these values at the assignments 0, 1, 2 and so on; after the last of them they begin again. */
    void holds(int f, int... values) {
        for (int x = 0; x < 1 << variables; x++) {
            due(values[x % values.length]).valueAt(f, x);
        }
    }

    /**
     * Gives place d the values that holds would find, and looks whether it has them. Place 4 is worked on, and so are 5
     * and 6; they are 0 afterwards.
     */
    void given(int d, int... values) {
        numberFirstVariables(5, Integer.numberOfTrailingZeros(values.length));
        for (int x = 0; x < values.length; x++) {
            constant(4, values[x]);
            constant(6, x);
            apply(6, AlgebraicDiagram.EQUAL, 5, 6);
            choose(d, 6, 4, d);
        }
        constant(4, 0);
        constant(5, 0);
        constant(6, 0);
        holds(d, values);
    }

    /** Gives place d at every assignment the assignment itself, and looks at it; place 6 is 0 afterwards. */
    void givenNumbers(int d) {
        numberFirstVariables(d, variables);
        for (int x = 0; x < 1 << variables; x++) {
            due(x).valueAt(d, x);
        }
    }

    /** Eight different functions of the variables 0 and 1, so that a wrong write shows, and the place of it. */
    void givenEight() {
        literal(0, 0);
        literal(1, 1);
        apply(2, AlgebraicDiagram.PLUS, 0, 1);
        apply(3, AlgebraicDiagram.MINUS, 0, 1);
        apply(4, AlgebraicDiagram.TIMES, 0, 1);
        apply(5, AlgebraicDiagram.LESS, 0, 1);
        apply(6, AlgebraicDiagram.EQUAL, 0, 1);
        constant(7, 9);
    }

    void holdsEight() {
        holdsEightBut(-1);
    }

    void holdsEightBut(int d) {
        for (int f = 0; f < 8; f++) {
            if (f != d) {
                holds(f, EIGHT[f]);
            }
        }
    }

    /** Place d becomes the number that the first variables make, variable v counting 1 << v; place 6 is worked on. */
    private void numberFirstVariables(int d, int ofVariables) {
        constant(d, 0);
        for (int v = ofVariables - 1; v >= 0; v--) {
            apply(d, AlgebraicDiagram.PLUS, d, d);
            literal(6, v);
            apply(d, AlgebraicDiagram.PLUS, d, 6);
        }
        constant(6, 0);
    }

    private void written(String call, boolean answer) {
        if (!isDueTold) {
            due(true);
        }
        answered(call, answer ? 1L : 0L);
    }

    private void answered(String call, long answer) {
        calls++;
        if (calls > MOST_CALLS || !isDueTold) {
            throw new IllegalStateException("the test is wrong at its call " + calls + ", " + call);
        }
        isDueTold = false;
        checks.due("V = " + variables + ", call " + calls + ": " + call, answer, dueNext);
    }

    private static String listed(int one, int two, int three, int four) {
        return one + ", " + two + ", " + three + ", " + four;
    }
}
