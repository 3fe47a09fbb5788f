/** Long runs of calls, each answer, and the state at the end, set beside the model's. */
public final class ModelTest {
    private static final int RUNS = 240;
    /** With the comparison of the whole state, at most 317 calls, a run stays within an object's 512 calls. */
    private static final int CALLS = 190;
    private static final int[] SIZES = {5, 4, 3, 2, 5, 0, -1, 6, Integer.MIN_VALUE, Integer.MAX_VALUE};
    private static final int[] WRONG = {-1, 8, 7, 5, -8, 32, 256, Integer.MIN_VALUE, Integer.MAX_VALUE};
    private static final int[] VALUES = {0, 1, -1, 2, 3, 5, -7, 46341, 65536, Integer.MIN_VALUE, Integer.MAX_VALUE};

    private final Checks checks = new Checks();
    /** The state of a plain generator with a fixed start, so that every run of the test is the same. */
    private long state = 20261115L;

    public static void main(String[] args) {
        ModelTest test = new ModelTest();
        for (int run = 0; run < RUNS; run++) {
            test.run(run);
        }
        test.checks.end();
    }

    private void run(int run) {
        int size = SIZES[run % SIZES.length];
        Beside both = new Beside(checks, "run " + run + " of size " + size, size);
        for (int call = 0; call < CALLS; call++) {
            if (below(3) == 0) {
                ask(both);
            } else {
                write(both);
            }
        }
        both.compareAll();
    }

    private void write(Beside both) {
        int d = place();
        int a = place();
        int b = place();
        int op = below(20) == 0 ? WRONG[below(WRONG.length)] : below(7);
        int v = variable();
        switch (below(9)) {
            case 0 -> both.constant(d, value());
            case 1, 2 -> both.literal(d, v);
            case 3, 4 -> both.apply(d, op, a, b);
            case 5 -> both.choose(d, place(), a, b);
            case 6 -> both.fold(d, op, a, v);
            case 7 -> both.substitute(d, a, v, b);
            default -> both.exchange(d, a, variable(), v);
        }
    }

    private void ask(Beside both) {
        int f = place();
        switch (below(7)) {
            case 0 -> both.valueAt(f, assignment());
            case 1 -> both.parts(f);
            case 2 -> both.countOf(f, value());
            case 3 -> both.same(f, place());
            case 4 -> both.support(f);
            case 5 -> both.total(f);
            default -> both.allParts();
        }
    }

    private int place() {
        return below(40) == 0 ? WRONG[below(WRONG.length)] : below(8);
    }

    private int variable() {
        return below(20) == 0 ? WRONG[below(WRONG.length)] : below(5);
    }

    private int assignment() {
        return below(10) == 0 ? WRONG[below(WRONG.length)] : below(32);
    }

    private int value() {
        return below(4) == 0 ? next() : VALUES[below(VALUES.length)];
    }

    private int below(int bound) {
        return Math.floorMod(next(), bound);
    }

    private int next() {
        state = state * 6364136223846793005L + 1442695040888963407L;
        return (int) (state >>> 32);
    }
}
