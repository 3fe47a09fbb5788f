/** Promise 14: "The sum of place f's values over all assignments, as a long; 0 if f is outside 0..7." */
public final class Promise14Test {
    private static final Checks CHECKS = new Checks();

    public static void main(String[] args) {
        sumsSmallValues(2, 1, -5);
        sumsSmallValues(3, 2, -10);
        sumsSmallValues(4, 4, -20);
        sumsSmallValues(5, 8, -40);
        sumsAreLong();
        leastAndGreatest(2, -8589934592L, 8589934588L);
        leastAndGreatest(3, -17179869184L, 17179869176L);
        leastAndGreatest(4, -34359738368L, 34359738352L);
        leastAndGreatest(5, -68719476736L, 68719476704L);
        sumsOfNumbers(2, 6);
        sumsOfNumbers(3, 28);
        sumsOfNumbers(4, 120);
        sumsOfNumbers(5, 496);
        for (int variables = 2; variables <= 5; variables++) {
            refuses(variables);
        }
        CHECKS.end();
    }

    /** A table of four values comes this many times. */
    private static void sumsSmallValues(int variables, int times, long due) {
        Run x = new Run(CHECKS, variables);
        x.due(0).total(0);
        x.given(0, 1, -2, 4, -8);
        x.due(due).total(0);
        int[] ofEight = {2, 2, 4, 0, 1, 1, 2, 36};
        Run y = new Run(CHECKS, variables);
        y.givenEight();
        for (int f = 0; f < 8; f++) {
            y.due(ofEight[f] * times).total(f);
        }
        y.holdsEight();
    }

    private static void sumsOfNumbers(int variables, long due) {
        Run x = new Run(CHECKS, variables);
        x.givenNumbers(0);
        x.due(due).total(0);
    }

    /** "as a long": the sum goes beyond the ints where the values do not. */
    private static void sumsAreLong() {
        Run x = new Run(CHECKS, 2);
        x.given(0, Run.HIGHEST, 0, 0, 0);
        x.due(2147483647L).total(0);
        x.given(0, Run.HIGHEST, 0, 0, 1);
        x.due(2147483648L).total(0);
        x.given(0, 0, Run.LOWEST, 0, 0);
        x.due(-2147483648L).total(0);
        x.given(0, 0, Run.LOWEST, -1, 0);
        x.due(-2147483649L).total(0);
        x.given(0, Run.HIGHEST, Run.HIGHEST, Run.LOWEST, Run.LOWEST);
        x.due(-2L).total(0);
        x.given(0, Run.HIGHEST, Run.HIGHEST, 2, 0);
        x.due(4294967296L).total(0);
    }

    private static void leastAndGreatest(int variables, long least, long greatest) {
        Run x = new Run(CHECKS, variables);
        x.constant(7, Run.LOWEST);
        x.due(least).total(7);
        x.constant(7, Run.HIGHEST);
        x.due(greatest).total(7);
        x.due(0).total(0);
    }

    /** "0 if f is outside 0..7." No place has a total of 0, so that another place's would show. */
    private static void refuses(int variables) {
        Run x = new Run(CHECKS, variables);
        for (int f = 0; f < 8; f++) {
            x.constant(f, 100 + f);
        }
        for (int f : Run.NO_PLACES) {
            x.due(0).total(f);
        }
        for (int f = 0; f < 8; f++) {
            x.holds(f, 100 + f);
        }
    }
}
