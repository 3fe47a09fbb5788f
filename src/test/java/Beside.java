import java.util.Arrays;

/** The program and the model under the same calls: each answer of the one is checked against the other's. */
final class Beside {
    private static final int MOST_CALLS = 512;

    private final Checks checks;
    private final String told;
    private final int variables;
    private final AlgebraicDiagram program;
    private final Model model;
    private int calls = 0;

    Beside(Checks checks, String told, int variables) {
        this.checks = checks;
        this.told = told;
        this.program = new AlgebraicDiagram(variables);
        this.model = new Model(variables);
        this.variables = model.variables();
    }

    /** Eight different functions, place f with x - f - 1 at assignment x, so that a wrong write shows. */
    static Beside withEightFunctions(Checks checks, String told, int variables) {
        Beside both = new Beside(checks, told, variables);
        for (int v = both.variables - 1; v >= 0; v--) {
            both.apply(0, AlgebraicDiagram.PLUS, 0, 0);
            both.literal(1, v);
            both.apply(0, AlgebraicDiagram.PLUS, 0, 1);
        }
        both.constant(1, 1);
        both.apply(0, AlgebraicDiagram.MINUS, 0, 1);
        for (int f = 1; f < 8; f++) {
            both.constant(f, f);
            both.apply(f, AlgebraicDiagram.MINUS, 0, f);
        }
        return both;
    }

    int variables() {
        return variables;
    }

    int calls() {
        return calls;
    }

    boolean constant(int d, int c) {
        return checked("constant", program.constant(d, c), model.constant(d, c), d, c);
    }

    boolean literal(int d, int v) {
        return checked("literal", program.literal(d, v), model.literal(d, v), d, v);
    }

    boolean apply(int d, int op, int a, int b) {
        return checked("apply", program.apply(d, op, a, b), model.apply(d, op, a, b), d, op, a, b);
    }

    boolean choose(int d, int c, int a, int b) {
        return checked("choose", program.choose(d, c, a, b), model.choose(d, c, a, b), d, c, a, b);
    }

    boolean fold(int d, int op, int a, int v) {
        return checked("fold", program.fold(d, op, a, v), model.fold(d, op, a, v), d, op, a, v);
    }

    boolean substitute(int d, int a, int v, int b) {
        return checked("substitute", program.substitute(d, a, v, b), model.substitute(d, a, v, b), d, a, v, b);
    }

    boolean exchange(int d, int a, int u, int v) {
        return checked("exchange", program.exchange(d, a, u, v), model.exchange(d, a, u, v), d, a, u, v);
    }

    int valueAt(int f, int assignment) {
        return (int) checked("valueAt", program.valueAt(f, assignment), model.valueAt(f, assignment), f, assignment);
    }

    int parts(int f) {
        return (int) checked("parts", program.parts(f), model.parts(f), f);
    }

    int countOf(int f, int c) {
        return (int) checked("countOf", program.countOf(f, c), model.countOf(f, c), f, c);
    }

    boolean same(int f, int g) {
        return checked("same", program.same(f, g), model.same(f, g), f, g);
    }

    int support(int f) {
        return (int) checked("support", program.support(f), model.support(f), f);
    }

    long total(int f) {
        return checked("total", program.total(f), model.total(f), f);
    }

    int allParts() {
        return (int) checked("allParts", program.allParts(), model.allParts());
    }

    /** With 5 variables these are 256 calls. */
    void compareValues() {
        for (int f = 0; f < 8; f++) {
            for (int at = 0; at < 1 << variables; at++) {
                valueAt(f, at);
            }
        }
    }

    /** Whatever a question can show of the places; with 5 variables these are 317 calls. */
    void compareAll() {
        compareValues();
        for (int f = 0; f < 8; f++) {
            parts(f);
            support(f);
            total(f);
            countOf(f, model.valueAt(f, 1));
            for (int g = 0; g < f; g++) {
                same(f, g);
            }
        }
        allParts();
    }

    private boolean checked(String call, boolean got, boolean want, int... given) {
        return checked(call, got ? 1L : 0L, want ? 1L : 0L, given) == 1L;
    }

    private long checked(String call, long got, long want, int... given) {
        calls++;
        if (calls > MOST_CALLS) {
            throw new IllegalStateException(told + ": the test asks for more than 512 calls");
        }
        if (got != want) {
            checks.due(told + ": " + call + Arrays.toString(given), got, want);
        } else {
            checks.due(call, got, want);
        }
        return got;
    }
}
