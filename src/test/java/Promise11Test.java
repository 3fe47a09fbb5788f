/** Promise 11: "The number of assignments at which place f's function has the value c; BAD if f is outside 0..7." */
public final class Promise11Test {
    private static final int[] ASSIGNMENTS = {0, 0, 4, 8, 16, 32};
    private static final Checks CHECKS = new Checks();

    public static void main(String[] args) {
        counts(3, 1, 2, 3);
        counts(4, 2, 4, 6);
        counts(5, 4, 8, 12);
        for (int variables = 2; variables <= 5; variables++) {
            noneOneAndAll(variables);
            everyPlace(variables);
            refuses(variables);
        }
        CHECKS.end();
    }

    /** A table of eight values comes once with 3 variables, twice with 4 and four times with 5. */
    private static void counts(int variables, int one, int two, int three) {
        Run x = new Run(CHECKS, variables);
        x.given(0, 4, -1, 4, 0, Run.LOWEST, 4, 0, Run.HIGHEST);
        x.due(three).countOf(0, 4);
        x.due(two).countOf(0, 0);
        x.due(one).countOf(0, -1);
        x.due(one).countOf(0, Run.LOWEST);
        x.due(one).countOf(0, Run.HIGHEST);
        x.due(0).countOf(0, 1);
        x.due(0).countOf(0, -4);
        x.due(0).countOf(0, 5);
    }

    private static void noneOneAndAll(int variables) {
        Run x = new Run(CHECKS, variables);
        int all = ASSIGNMENTS[variables];
        for (int c : new int[] {Run.LOWEST, -1, 0, 1, Run.HIGHEST}) {
            x.constant(7, c);
            x.due(all).countOf(7, c);
            x.due(0).countOf(7, c + 1);
            x.due(0).countOf(7, c - 1);
        }
        x.givenNumbers(0);
        x.due(0).countOf(0, -1);
        x.due(1).countOf(0, 0);
        x.due(1).countOf(0, all - 1);
        x.due(0).countOf(0, all);
    }

    private static void everyPlace(int variables) {
        Run x = new Run(CHECKS, variables);
        int all = ASSIGNMENTS[variables];
        int[] quarters = {2, 2, 1, 2, 3, 3, 2, 0};
        x.givenEight();
        for (int f = 0; f < 8; f++) {
            x.due(quarters[f] * all / 4).countOf(f, 0);
        }
        x.due(all).countOf(7, 9);
        x.due(all / 4).countOf(2, 2);
        x.due(all / 4).countOf(3, -1);
        x.holdsEight();
    }

    /** "BAD if f is outside 0..7", whatever c is. */
    private static void refuses(int variables) {
        Run x = new Run(CHECKS, variables);
        x.givenEight();
        for (int f : Run.NO_PLACES) {
            x.due(Run.BAD).countOf(f, 0);
            x.due(Run.BAD).countOf(f, 9);
            x.due(Run.BAD).countOf(f, -1);
            x.due(Run.BAD).countOf(f, 77);
        }
        x.holdsEight();
    }
}
