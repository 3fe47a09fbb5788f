/** Each promise by itself, with ordinary inputs; its boundaries are in BoundariesTest and RefusalsTest. */
public final class PromisesTest {
    private static final int LOWEST = Integer.MIN_VALUE;
    private static final int HIGHEST = Integer.MAX_VALUE;
    private static final Checks CHECKS = new Checks();

    public static void main(String[] args) {
        newObject();
        constant();
        literal();
        apply();
        applyWraps();
        choose();
        fold();
        foldOverItself();
        substitute();
        exchange();
        valueAt();
        parts();
        countOf();
        same();
        support();
        total();
        allParts();
        CHECKS.end();
    }

    private static void newObject() {
        int[] given = {LOWEST, -1, 0, 1, 2, 3, 4, 5, 6, 31, 32, HIGHEST};
        int[] clamped = {2, 2, 2, 2, 2, 3, 4, 5, 5, 5, 5, 5};
        for (int i = 0; i < given.length; i++) {
            String told = "new(" + given[i] + ") ";
            AlgebraicDiagram x = new AlgebraicDiagram(given[i]);
            for (int f = 0; f < 8; f++) {
                CHECKS.due(told + "countOf(" + f + ", 0)", x.countOf(f, 0), 1L << clamped[i]);
                CHECKS.due(told + "parts(" + f + ")", x.parts(f), 1);
            }
            CHECKS.due(told + "allParts()", x.allParts(), 1);
            CHECKS.due(told + "the last variable", x.literal(0, clamped[i] - 1), true);
            CHECKS.due(told + "one variable more", x.literal(0, clamped[i]), false);
        }
    }

    private static void constant() {
        AlgebraicDiagram x = new AlgebraicDiagram(3);
        int[] values = {0, 1, -1, 7, LOWEST, HIGHEST};
        for (int c : values) {
            CHECKS.due("constant(0, c)", x.constant(0, c), true);
            CHECKS.due("constant(7, c)", x.constant(7, c), true);
            CHECKS.holds(x, "constant " + c, 0, c, c, c, c, c, c, c, c);
            CHECKS.holds(x, "constant " + c, 7, c, c, c, c, c, c, c, c);
            CHECKS.holds(x, "beside constant " + c, 1, 0, 0, 0, 0, 0, 0, 0, 0);
        }
    }

    private static void literal() {
        AlgebraicDiagram x = new AlgebraicDiagram(3);
        CHECKS.due("literal(0, 0)", x.literal(0, 0), true);
        CHECKS.due("literal(4, 1)", x.literal(4, 1), true);
        CHECKS.due("literal(7, 2)", x.literal(7, 2), true);
        CHECKS.holds(x, "literal 0", 0, 0, 1, 0, 1, 0, 1, 0, 1);
        CHECKS.holds(x, "literal 1", 4, 0, 0, 1, 1, 0, 0, 1, 1);
        CHECKS.holds(x, "literal 2", 7, 0, 0, 0, 0, 1, 1, 1, 1);
        CHECKS.holds(x, "beside literal", 1, 0, 0, 0, 0, 0, 0, 0, 0);
    }

    private static void apply() {
        AlgebraicDiagram x = new AlgebraicDiagram(2);
        Tables.fill(x, 0, 3, -2, 5, 0);
        Tables.fill(x, 1, 4, -2, -6, 1);
        int[][] due = {{7, -4, -1, 1}, {-1, 0, 11, -1}, {12, 4, -30, 0}, {3, -2, -6, 0}, {4, -2, 5, 1}, {1, 0, 0, 1},
            {0, 1, 0, 0}};
        for (int op = 0; op < 7; op++) {
            CHECKS.due("apply " + op, x.apply(2, op, 0, 1), true);
            CHECKS.holds(x, "apply " + op, 2, due[op]);
        }
        CHECKS.holds(x, "apply reads a", 0, 3, -2, 5, 0);
        CHECKS.holds(x, "apply reads b", 1, 4, -2, -6, 1);
        CHECKS.due("apply onto b", x.apply(1, AlgebraicDiagram.MINUS, 0, 1), true);
        CHECKS.holds(x, "apply onto b", 1, -1, 0, 11, -1);
        CHECKS.due("apply onto a", x.apply(0, AlgebraicDiagram.MINUS, 0, 1), true);
        CHECKS.holds(x, "apply onto a", 0, 4, -2, -6, 1);
        CHECKS.due("apply onto both", x.apply(0, AlgebraicDiagram.TIMES, 0, 0), true);
        CHECKS.holds(x, "apply onto both", 0, 16, 4, 36, 1);
    }

    private static void applyWraps() {
        AlgebraicDiagram x = new AlgebraicDiagram(2);
        Tables.fill(x, 0, HIGHEST, LOWEST, LOWEST, 65536);
        Tables.fill(x, 1, 1, -1, 1, 65537);
        int[][] due = {{LOWEST, HIGHEST, LOWEST + 1, 131073}, {HIGHEST - 1, LOWEST + 1, HIGHEST, -1},
            {HIGHEST, LOWEST, LOWEST, 65536}, {1, LOWEST, LOWEST, 65536}, {HIGHEST, -1, 1, 65537}, {0, 1, 1, 1},
            {0, 0, 0, 0}};
        for (int op = 0; op < 7; op++) {
            CHECKS.due("wrapping apply " + op, x.apply(2, op, 0, 1), true);
            CHECKS.holds(x, "wrapping apply " + op, 2, due[op]);
        }
    }

    private static void choose() {
        AlgebraicDiagram x = new AlgebraicDiagram(2);
        Tables.fill(x, 0, 0, 1, -1, LOWEST);
        Tables.fill(x, 1, 10, 11, 12, 13);
        Tables.fill(x, 2, 20, 21, 22, 23);
        CHECKS.due("choose(3, 0, 1, 2)", x.choose(3, 0, 1, 2), true);
        CHECKS.holds(x, "choose", 3, 20, 11, 12, 13);
        CHECKS.due("choose(3, 0, 2, 1)", x.choose(3, 0, 2, 1), true);
        CHECKS.holds(x, "choose the other way", 3, 10, 21, 22, 23);
        CHECKS.due("choose onto b", x.choose(2, 0, 1, 2), true);
        CHECKS.holds(x, "choose onto b", 2, 20, 11, 12, 13);
        CHECKS.due("choose onto c", x.choose(0, 0, 0, 1), true);
        CHECKS.holds(x, "choose onto c", 0, 10, 1, -1, LOWEST);
    }

    private static void fold() {
        AlgebraicDiagram x = new AlgebraicDiagram(2);
        Tables.fill(x, 0, 3, -2, 5, -2);
        int[][] over0 = {{1, 3}, {5, 7}, {-6, -10}, {-2, -2}, {3, 5}, {0, 0}, {0, 0}};
        int[][] over1 = {{8, -4}, {-2, 0}, {15, 4}, {3, -2}, {5, -2}, {1, 0}, {0, 1}};
        for (int op = 0; op < 7; op++) {
            CHECKS.due("fold " + op + " over 0", x.fold(7, op, 0, 0), true);
            CHECKS.holds(x, "fold " + op + " over 0", 7, over0[op][0], over0[op][0], over0[op][1], over0[op][1]);
            CHECKS.due("fold " + op + " over 1", x.fold(7, op, 0, 1), true);
            CHECKS.holds(x, "fold " + op + " over 1", 7, over1[op][0], over1[op][1], over1[op][0], over1[op][1]);
        }
        CHECKS.holds(x, "fold reads a", 0, 3, -2, 5, -2);
    }

    private static void foldOverItself() {
        AlgebraicDiagram x = new AlgebraicDiagram(3);
        Tables.fill(x, 4, 1, 2, 4, 8, 16, 32, 64, 128);
        CHECKS.due("fold(4, PLUS, 4, 2)", x.fold(4, AlgebraicDiagram.PLUS, 4, 2), true);
        CHECKS.holds(x, "fold onto a over 2", 4, 17, 34, 68, 136, 17, 34, 68, 136);
        CHECKS.due("fold(4, MINUS, 4, 0)", x.fold(4, AlgebraicDiagram.MINUS, 4, 0), true);
        CHECKS.holds(x, "fold onto a over 0", 4, -17, -17, -68, -68, -17, -17, -68, -68);
        CHECKS.due("fold(4, PLUS, 4, 0)", x.fold(4, AlgebraicDiagram.PLUS, 4, 0), true);
        CHECKS.holds(x, "fold over what it does not depend on", 4, -34, -34, -136, -136, -34, -34, -136, -136);
    }

    private static void substitute() {
        AlgebraicDiagram x = new AlgebraicDiagram(3);
        Tables.fill(x, 0, 10, 11, 12, 13, 14, 15, 16, 17);
        Tables.fill(x, 1, 0, 5, -1, 0, LOWEST, 0, 0, 1);
        CHECKS.due("substitute(2, 0, 0, 1)", x.substitute(2, 0, 0, 1), true);
        CHECKS.holds(x, "substitute 0", 2, 10, 11, 13, 12, 15, 14, 16, 17);
        CHECKS.due("substitute(2, 0, 2, 1)", x.substitute(2, 0, 2, 1), true);
        CHECKS.holds(x, "substitute 2", 2, 10, 15, 16, 13, 14, 11, 12, 17);
        CHECKS.holds(x, "substitute reads a", 0, 10, 11, 12, 13, 14, 15, 16, 17);
        CHECKS.holds(x, "substitute reads b", 1, 0, 5, -1, 0, LOWEST, 0, 0, 1);
        CHECKS.due("substitute onto a", x.substitute(0, 0, 1, 1), true);
        CHECKS.holds(x, "substitute onto a", 0, 10, 13, 12, 11, 16, 15, 14, 17);
        CHECKS.due("substitute onto b", x.substitute(1, 0, 1, 1), true);
        CHECKS.holds(x, "substitute onto b", 1, 10, 11, 12, 13, 14, 15, 16, 17);
        Tables.fill(x, 3, 0, 1, 0, 0, 2, 0, 0, 3);
        CHECKS.due("substitute onto both", x.substitute(3, 3, 0, 3), true);
        CHECKS.holds(x, "substitute onto both", 3, 0, 1, 0, 0, 0, 2, 0, 3);
    }

    private static void exchange() {
        AlgebraicDiagram x = new AlgebraicDiagram(3);
        Tables.fill(x, 0, 10, 11, 12, 13, 14, 15, 16, 17);
        CHECKS.due("exchange(1, 0, 0, 1)", x.exchange(1, 0, 0, 1), true);
        CHECKS.holds(x, "exchange 0 1", 1, 10, 12, 11, 13, 14, 16, 15, 17);
        CHECKS.due("exchange(1, 0, 2, 0)", x.exchange(1, 0, 2, 0), true);
        CHECKS.holds(x, "exchange 2 0", 1, 10, 14, 12, 16, 11, 15, 13, 17);
        CHECKS.due("exchange(1, 0, 1, 1)", x.exchange(1, 0, 1, 1), true);
        CHECKS.holds(x, "exchange 1 1", 1, 10, 11, 12, 13, 14, 15, 16, 17);
        CHECKS.due("exchange(0, 0, 1, 2)", x.exchange(0, 0, 1, 2), true);
        CHECKS.holds(x, "exchange onto a", 0, 10, 11, 14, 15, 12, 13, 16, 17);
        CHECKS.due("exchange(0, 0, 2, 2)", x.exchange(0, 0, 2, 2), true);
        CHECKS.holds(x, "exchange 2 2 onto a", 0, 10, 11, 14, 15, 12, 13, 16, 17);
    }

    private static void valueAt() {
        for (int variables = 2; variables <= 5; variables++) {
            AlgebraicDiagram x = new AlgebraicDiagram(variables);
            int end = 1 << variables;
            for (int f = 0; f < 8; f++) {
                x.constant(f, 9 + f);
            }
            for (int f = 0; f < 8; f++) {
                CHECKS.due("valueAt(f, 0)", x.valueAt(f, 0), 9 + f);
                CHECKS.due("valueAt(f, last)", x.valueAt(f, end - 1), 9 + f);
                int[] outside = {-1, end, end + 1, 32, 64, LOWEST, HIGHEST};
                for (int assignment : outside) {
                    CHECKS.due("valueAt(" + f + ", " + assignment + ")", x.valueAt(f, assignment), 0);
                }
            }
        }
    }

    private static void parts() {
        AlgebraicDiagram x = new AlgebraicDiagram(2);
        Tables.fill(x, 0, 5, 5, 5, 5);
        CHECKS.due("parts of a constant", x.parts(0), 1);
        Tables.fill(x, 0, 0, 1, 0, 1);
        CHECKS.due("parts of literal 0", x.parts(0), 3);
        Tables.fill(x, 0, 0, 0, 1, 1);
        CHECKS.due("parts of literal 1", x.parts(0), 3);
        Tables.fill(x, 0, 0, 1, 1, 0);
        CHECKS.due("parts of an exclusive or", x.parts(0), 5);
        Tables.fill(x, 0, 0, 0, 0, 1);
        CHECKS.due("parts of an and", x.parts(0), 4);
        Tables.fill(x, 0, 1, 2, 3, 4);
        CHECKS.due("parts of four values", x.parts(0), 7);
        for (int variables = 2; variables <= 5; variables++) {
            AlgebraicDiagram y = new AlgebraicDiagram(variables);
            Tables.number(y, 7, variables);
            CHECKS.due("parts of all values different", y.parts(7), (2L << variables) - 1);
            CHECKS.due("parts again", y.parts(7), (2L << variables) - 1);
            y.literal(7, variables - 1);
            CHECKS.due("parts of the last literal", y.parts(7), 3);
        }
    }

    private static void countOf() {
        AlgebraicDiagram x = new AlgebraicDiagram(3);
        Tables.fill(x, 7, 4, -1, 4, 0, LOWEST, 4, 0, HIGHEST);
        CHECKS.due("countOf(7, 4)", x.countOf(7, 4), 3);
        CHECKS.due("countOf(7, 0)", x.countOf(7, 0), 2);
        CHECKS.due("countOf(7, -1)", x.countOf(7, -1), 1);
        CHECKS.due("countOf(7, LOWEST)", x.countOf(7, LOWEST), 1);
        CHECKS.due("countOf(7, HIGHEST)", x.countOf(7, HIGHEST), 1);
        CHECKS.due("countOf(7, 5)", x.countOf(7, 5), 0);
        CHECKS.due("countOf(0, 0)", x.countOf(0, 0), 8);
    }

    private static void same() {
        AlgebraicDiagram x = new AlgebraicDiagram(5);
        CHECKS.due("same(0, 7)", x.same(0, 7), true);
        Tables.number(x, 0, 5);
        Tables.number(x, 3, 5);
        CHECKS.due("same(3, 3)", x.same(3, 3), true);
        CHECKS.due("same(0, 3)", x.same(0, 3), true);
        CHECKS.due("same(3, 1)", x.same(3, 1), false);
        for (int at = 0; at < 32; at++) {
            AlgebraicDiagram y = new AlgebraicDiagram(5);
            Tables.point(y, 0, at, 5);
            CHECKS.due("same but at " + at, y.same(0, 1), false);
            CHECKS.due("same but at " + at, y.same(1, 0), false);
        }
    }

    private static void support() {
        for (int variables = 2; variables <= 5; variables++) {
            AlgebraicDiagram x = new AlgebraicDiagram(variables);
            int all = (1 << variables) - 1;
            CHECKS.due("support of 0", x.support(0), 0);
            x.constant(0, 8);
            CHECKS.due("support of a constant", x.support(0), 0);
            for (int v = 0; v < variables; v++) {
                x.literal(0, v);
                CHECKS.due("support of literal " + v, x.support(0), 1 << v);
                Tables.number(x, 0, variables);
                CHECKS.due("support of all values different", x.support(0), all);
                x.fold(0, AlgebraicDiagram.LEAST, 0, v);
                CHECKS.due("support after fold over " + v, x.support(0), all & ~(1 << v));
            }
            Tables.point(x, 0, all, variables);
            CHECKS.due("support of one point", x.support(0), all);
        }
    }

    private static void total() {
        AlgebraicDiagram x = new AlgebraicDiagram(5);
        CHECKS.due("total(0)", x.total(0), 0L);
        Tables.number(x, 0, 5);
        CHECKS.due("total of 0 to 31", x.total(0), 496L);
        x.constant(7, HIGHEST);
        CHECKS.due("total of the highest", x.total(7), 68719476704L);
        x.constant(7, LOWEST);
        CHECKS.due("total of the lowest", x.total(7), -68719476736L);
        AlgebraicDiagram y = new AlgebraicDiagram(2);
        Tables.fill(y, 1, 1, -2, 4, -8);
        CHECKS.due("total of four values", y.total(1), -5L);
    }

    private static void allParts() {
        AlgebraicDiagram x = new AlgebraicDiagram(2);
        x.literal(0, 0);
        CHECKS.due("allParts of 0 and literal 0", x.allParts(), 3);
        x.literal(1, 1);
        CHECKS.due("allParts with literal 1", x.allParts(), 4);
        x.literal(7, 1);
        CHECKS.due("allParts with literal 1 twice", x.allParts(), 4);
        Tables.fill(x, 3, 0, 1, 1, 0);
        CHECKS.due("allParts with an exclusive or", x.allParts(), 6);
        x.constant(6, 1);
        CHECKS.due("allParts with a part alone", x.allParts(), 6);
        x.constant(7, 9);
        CHECKS.due("allParts with one more", x.allParts(), 7);
        CHECKS.due("parts is not allParts", x.parts(7), 1);
        CHECKS.due("allParts again", x.allParts(), 7);
        allPartsDifferent();
    }

    private static void allPartsDifferent() {
        AlgebraicDiagram x = new AlgebraicDiagram(5);
        Tables.number(x, 0, 5);
        for (int f = 1; f < 8; f++) {
            x.constant(f, 32 * f);
            x.apply(f, AlgebraicDiagram.PLUS, f, 0);
        }
        CHECKS.due("allParts, all different", x.allParts(), 504);
        CHECKS.due("allParts, all different, again", x.allParts(), 504);
        CHECKS.due("parts after it", x.parts(7), 63);
        CHECKS.due("valueAt after it", x.valueAt(7, 31), 255);
    }
}
