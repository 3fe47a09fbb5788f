/** Long runs of calls, each answer, and the state at the end, set beside the model's. */
public final class ModelTest {
    private static final int RUNS = 120;
    /** With the two comparisons of the state, 145 calls each, a run stays within an object's 512 calls. */
    private static final int CALLS = 220;
    private static final int[] SIZES = {5, 4, 3, 2, 5, 0, -1, 6, Integer.MIN_VALUE, Integer.MAX_VALUE};
    private static final int[] WRONG = {-1, 8, 7, 5, -8, 32, 256, Integer.MIN_VALUE, Integer.MAX_VALUE};
    private static final int[] VALUES = {0, 1, -1, 2, 3, 5, -7, 46341, 65536, Integer.MIN_VALUE, Integer.MAX_VALUE};

    private final Checks checks = new Checks();
    /** The state of a plain generator with a fixed start, so that every run of the test is the same. */
    private long state = 20261115L;
    private AlgebraicDiagram program;
    private Model model;

    public static void main(String[] args) {
        ModelTest test = new ModelTest();
        for (int run = 0; run < RUNS; run++) {
            test.run(run);
        }
        test.checks.end();
    }

    private void run(int run) {
        int size = SIZES[run % SIZES.length];
        program = new AlgebraicDiagram(size);
        model = new Model(size);
        compareState("run " + run + " new AlgebraicDiagram(" + size + ")");
        for (int call = 0; call < CALLS; call++) {
            String told = "run " + run + " call " + call + " ";
            if (below(3) == 0) {
                ask(told);
            } else {
                write(told);
            }
        }
        compareState("run " + run + " at its end");
    }

    private void write(String told) {
        int d = place();
        int a = place();
        int b = place();
        int c = place();
        int op = below(20) == 0 ? WRONG[below(WRONG.length)] : below(7);
        int u = variable();
        int v = variable();
        int value = below(3) == 0 ? next() : VALUES[below(VALUES.length)];
        switch (below(9)) {
            case 0 -> checks.due(told + "constant(" + d + ", " + value + ")",
                    program.constant(d, value), model.constant(d, value));
            case 1, 2 -> checks.due(told + "literal(" + d + ", " + v + ")",
                    program.literal(d, v), model.literal(d, v));
            case 3, 4 -> checks.due(told + "apply(" + d + ", " + op + ", " + a + ", " + b + ")",
                    program.apply(d, op, a, b), model.apply(d, op, a, b));
            case 5 -> checks.due(told + "choose(" + d + ", " + c + ", " + a + ", " + b + ")",
                    program.choose(d, c, a, b), model.choose(d, c, a, b));
            case 6 -> checks.due(told + "fold(" + d + ", " + op + ", " + a + ", " + v + ")",
                    program.fold(d, op, a, v), model.fold(d, op, a, v));
            case 7 -> checks.due(told + "substitute(" + d + ", " + a + ", " + v + ", " + b + ")",
                    program.substitute(d, a, v, b), model.substitute(d, a, v, b));
            default -> checks.due(told + "exchange(" + d + ", " + a + ", " + u + ", " + v + ")",
                    program.exchange(d, a, u, v), model.exchange(d, a, u, v));
        }
    }

    private void ask(String told) {
        int f = place();
        int g = place();
        int x = below(10) == 0 ? WRONG[below(WRONG.length)] : below(32);
        int c = below(2) == 0 ? model.valueAt(f, x) : VALUES[below(VALUES.length)];
        switch (below(7)) {
            case 0 -> checks.due(told + "valueAt(" + f + ", " + x + ")", program.valueAt(f, x), model.valueAt(f, x));
            case 1 -> checks.due(told + "parts(" + f + ")", program.parts(f), model.parts(f));
            case 2 -> checks.due(told + "countOf(" + f + ", " + c + ")", program.countOf(f, c), model.countOf(f, c));
            case 3 -> checks.due(told + "same(" + f + ", " + g + ")", program.same(f, g), model.same(f, g));
            case 4 -> checks.due(told + "support(" + f + ")", program.support(f), model.support(f));
            case 5 -> checks.due(told + "total(" + f + ")", program.total(f), model.total(f));
            default -> checks.due(told + "allParts()", program.allParts(), model.allParts());
        }
    }

    private void compareState(String told) {
        for (int f = 0; f < 8; f++) {
            checks.due(told + " parts(" + f + ")", program.parts(f), model.parts(f));
            checks.due(told + " support(" + f + ")", program.support(f), model.support(f));
            for (int x = 0; x < 16; x++) {
                int assignment = x * model.assignments() / 16;
                checks.due(told + " valueAt(" + f + ", " + assignment + ")",
                        program.valueAt(f, assignment), model.valueAt(f, assignment));
            }
        }
        checks.due(told + " allParts()", program.allParts(), model.allParts());
    }

    private int place() {
        return below(40) == 0 ? WRONG[below(WRONG.length)] : below(8);
    }

    private int variable() {
        return below(20) == 0 ? WRONG[below(WRONG.length)] : below(5);
    }

    private int below(int bound) {
        return Math.floorMod(next(), bound);
    }

    private int next() {
        state = state * 6364136223846793005L + 1442695040888963407L;
        return (int) (state >>> 32);
    }
}
