/** "An object is used for at most 512 calls after it has been made; what later calls answer is free." */
public final class CallLimitTest {
    private static final int MOST_CALLS = 512;
    private static final int KINDS = 14;

    private final Checks checks = new Checks();

    public static void main(String[] args) {
        CallLimitTest test = new CallLimitTest();
        test.lastCallsWrittenOut(2, 4, 2040);
        test.lastCallsWrittenOut(3, 8, 4080);
        test.lastCallsWrittenOut(4, 16, 8160);
        test.lastCallsWrittenOut(5, 32, 16320);
        for (int variables = 2; variables <= 5; variables++) {
            test.eachKindIsTheLastCall(variables);
            test.onlyWritesBeforeTheLastCall(variables);
            test.onlyRefusedBeforeTheLastCall(variables);
            test.onlyQuestionsBeforeTheLastCall(variables);
            laterCallsEnd(variables);
        }
        test.checks.end();
    }

    /** The 512th call of objects whose places 0 to 7 hold 504 to 511. */
    private void lastCallsWrittenOut(int variables, int assignments, long totalOf510) {
        before512(variables).due(true).constant(0, 1);
        before512(variables).refused().constant(8, 1);
        before512(variables).due(true).literal(0, 1);
        before512(variables).refused().literal(0, variables);
        before512(variables).due(true).apply(0, 6, 1, 2);
        before512(variables).refused().apply(0, 7, 1, 2);
        before512(variables).due(true).choose(0, 1, 2, 3);
        before512(variables).refused().choose(0, 1, 2, 8);
        before512(variables).due(true).fold(0, 6, 1, 0);
        before512(variables).refused().fold(0, 7, 1, 0);
        before512(variables).due(true).substitute(0, 1, 0, 2);
        before512(variables).refused().substitute(0, 1, -1, 2);
        before512(variables).due(true).exchange(0, 1, 0, 1);
        before512(variables).refused().exchange(0, 1, 0, -1);
        before512(variables).due(504).valueAt(0, 0);
        before512(variables).due(511).valueAt(7, assignments - 1);
        before512(variables).due(1).parts(6);
        before512(variables).due(assignments).countOf(6, 510);
        before512(variables).due(true).same(6, 6);
        before512(variables).due(false).same(6, 7);
        before512(variables).due(0).support(6);
        before512(variables).due(totalOf510).total(6);
        before512(variables).due(8).allParts();
    }

    private Run before512(int variables) {
        Run x = new Run(checks, variables);
        for (int call = 1; call <= 511; call++) {
            x.constant(call % 8, call);
        }
        return x;
    }

    private void eachKindIsTheLastCall(int variables) {
        for (int kind = 0; kind < KINDS; kind++) {
            Beside both = start("kind " + kind + " is the last call", variables);
            while (both.calls() < MOST_CALLS - 1) {
                int n = both.calls();
                anyCall(both, n * 5 % KINDS, n);
            }
            anyCall(both, kind, kind);
            used(both);
        }
    }

    /** Ever new functions, so that a store that keeps old ones would be at its fullest. */
    private void onlyWritesBeforeTheLastCall(int variables) {
        for (int kind = 7; kind < KINDS; kind++) {
            Beside both = start("writes before the last call", variables);
            while (both.calls() < MOST_CALLS - 1) {
                int n = both.calls();
                int d = n % 8;
                switch (n / 8 % 3) {
                    case 0 -> both.apply(d, AlgebraicDiagram.TIMES, d, (d + 3) % 8);
                    case 1 -> both.apply(d, AlgebraicDiagram.PLUS, d, (d + 5) % 8);
                    default -> both.exchange(d, d, n % variables, (n + 1) % variables);
                }
            }
            anyCall(both, kind, kind);
            used(both);
        }
    }

    private void onlyRefusedBeforeTheLastCall(int variables) {
        for (int kind = 0; kind < KINDS; kind++) {
            Beside both = start("refused calls before the last call", variables);
            while (both.calls() < MOST_CALLS - 1) {
                refusedCall(both, both.calls());
            }
            anyCall(both, kind, kind);
            used(both);
        }
    }

    private void onlyQuestionsBeforeTheLastCall(int variables) {
        for (int kind = 0; kind < KINDS; kind++) {
            Beside both = start("questions before the last call", variables);
            while (both.calls() < MOST_CALLS - 1) {
                int n = both.calls();
                anyCall(both, n % 2 == 0 ? 13 : 7 + n % 7, n);
            }
            anyCall(both, kind, kind);
            used(both);
        }
    }

    /** Their answers are free, so none is looked at; but no call may ever throw or fail to end. */
    private static void laterCallsEnd(int variables) {
        AlgebraicDiagram x = new AlgebraicDiagram(variables);
        for (int n = 0; n < 4 * MOST_CALLS; n++) {
            int d = n % 11 - 1;
            x.constant(d, n);
            x.literal(d, n % 7 - 1);
            x.apply(d, n % 9 - 1, (n + 1) % 8, (n + 2) % 9);
            x.choose(d, n % 8, (n + 1) % 8, (n + 2) % 9);
            x.fold(d, n % 9 - 1, n % 8, n % 7 - 1);
            x.substitute(d, n % 8, n % 7 - 1, (n + 3) % 8);
            x.exchange(d, n % 8, n % 7 - 1, n % 5);
            x.valueAt(d, n % 40 - 2);
            x.parts(d);
            x.countOf(d, n);
            x.same(d, n % 8);
            x.support(d);
            x.total(d);
            x.allParts();
        }
    }

    private static void anyCall(Beside both, int kind, int n) {
        int d = n % 8;
        int a = (n + 3) % 8;
        int v = n % both.variables();
        switch (kind) {
            case 0 -> both.constant(d, n);
            case 1 -> both.literal(d, v);
            case 2 -> both.apply(d, n % 7, a, d);
            case 3 -> both.choose(d, a, d, (n + 5) % 8);
            case 4 -> both.fold(d, n % 7, a, v);
            case 5 -> both.substitute(d, a, v, (n + 2) % 8);
            case 6 -> both.exchange(d, a, v, 0);
            case 7 -> both.valueAt(d, n % (1 << both.variables()));
            case 8 -> both.parts(d);
            case 9 -> both.countOf(d, 0);
            case 10 -> both.same(d, a);
            case 11 -> both.support(d);
            case 12 -> both.total(d);
            default -> both.allParts();
        }
    }

    private static void refusedCall(Beside both, int n) {
        switch (n % 7) {
            case 0 -> both.constant(8, n);
            case 1 -> both.literal(n % 8, both.variables());
            case 2 -> both.apply(n % 8, 7, 0, 1);
            case 3 -> both.choose(n % 8, 0, 1, -1);
            case 4 -> both.fold(n % 8, 0, 8, 0);
            case 5 -> both.substitute(n % 8, 0, -1, 1);
            default -> both.exchange(n % 8, 0, both.variables(), 0);
        }
    }

    private Beside start(String told, int variables) {
        return Beside.withEightFunctions(checks, told + ", " + variables + " variables", variables);
    }

    private void used(Beside both) {
        checks.due("calls of the object", both.calls(), MOST_CALLS);
    }
}
