/** Promise 2: "Place d becomes c everywhere. d outside 0..7: refused, answers false. Else true." */
public final class Promise02Test {
    private static final Checks CHECKS = new Checks();

    public static void main(String[] args) {
        for (int variables = 2; variables <= 5; variables++) {
            becomesTheConstant(variables);
            takesEveryInt(variables);
            refuses(variables);
        }
        CHECKS.end();
    }

    /** "Place d becomes c everywhere." The first place and the last are among the eight. */
    private static void becomesTheConstant(int variables) {
        for (int d = 0; d < 8; d++) {
            Run x = new Run(CHECKS, variables);
            x.givenEight();
            x.due(true).constant(d, 6);
            x.holds(d, 6);
            x.holdsEightBut(d);
            x.due(true).constant(d, -4);
            x.holds(d, -4);
        }
    }

    /** The document sets no bound to c. */
    private static void takesEveryInt(int variables) {
        Run x = new Run(CHECKS, variables);
        int[] values = {0, 1, -1, 8, 256, 65536, -65537, Run.LOWEST, Run.LOWEST + 1, Run.HIGHEST - 1, Run.HIGHEST};
        for (int c : values) {
            x.due(true).constant(3, c);
            x.holds(3, c);
        }
    }

    /** "d outside 0..7: refused, answers false." */
    private static void refuses(int variables) {
        Run x = new Run(CHECKS, variables);
        x.givenEight();
        for (int d : Run.NO_PLACES) {
            x.refused().constant(d, 6);
            x.refused().constant(d, 0);
        }
        x.holdsEight();
    }
}
