/** Counts and prints the answers that are not as due. */
final class Checks {
    private static final int MOST_PRINTED = 40;
    private int checked = 0;
    private int wrong = 0;

    void due(String call, long got, long want) {
        checked++;
        if (got != want) {
            wrong++;
            if (wrong <= MOST_PRINTED) {
                System.out.println(call + " answered " + got + ", due is " + want);
            }
        }
    }

    void due(String call, boolean got, boolean want) {
        due(call, got ? 1L : 0L, want ? 1L : 0L);
    }

    /** A test that checked nothing has failed too. */
    void end() {
        System.out.println(wrong + " of " + checked + " answers are not as due");
        if (wrong != 0 || checked == 0) {
            System.exit(1);
        }
    }
}
