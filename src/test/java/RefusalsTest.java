/**
 * Every "outside", "refused", "BAD", "0 if" and "false if" of promises 2 to 14: each argument by itself, with every
 * allowed value and the first refused ones, and a refused call changes nothing that a later call could show.
 */
public final class RefusalsTest {
    private static final int LAST_PLACE = 7;
    private static final int LAST_OPERATION = 6;
    /** Beside the extremes, numbers that a shift, a mask or a narrower type would take for 0 or 1. */
    private static final int[] FAR_OUTSIDE = {-2, -8, 32, 33, 64, 256, 65536, -256, Integer.MIN_VALUE,
        Integer.MIN_VALUE + 1, Integer.MAX_VALUE};

    private static final Writer CONSTANT = (both, n) -> both.constant(n[0], n[1]);
    private static final Writer LITERAL = (both, n) -> both.literal(n[0], n[1]);
    private static final Writer APPLY = (both, n) -> both.apply(n[0], n[1], n[2], n[3]);
    private static final Writer CHOOSE = (both, n) -> both.choose(n[0], n[1], n[2], n[3]);
    private static final Writer FOLD = (both, n) -> both.fold(n[0], n[1], n[2], n[3]);
    private static final Writer SUBSTITUTE = (both, n) -> both.substitute(n[0], n[1], n[2], n[3]);
    private static final Writer EXCHANGE = (both, n) -> both.exchange(n[0], n[1], n[2], n[3]);

    private final Checks checks;
    private final int variables;
    private final int lastVariable;
    private final int lastAssignment;

    private interface Writer {
        boolean call(Beside both, int[] given);
    }

    private interface Question {
        long call(Beside both, int given);
    }

    private RefusalsTest(Checks checks, int variables) {
        this.checks = checks;
        this.variables = variables;
        this.lastVariable = variables - 1;
        this.lastAssignment = (1 << variables) - 1;
    }

    public static void main(String[] args) {
        Checks checks = new Checks();
        for (int variables = 2; variables <= 5; variables++) {
            RefusalsTest test = new RefusalsTest(checks, variables);
            test.constant();
            test.literal();
            test.apply();
            test.choose();
            test.fold();
            test.substitute();
            test.exchange();
            test.valueAt();
            test.parts();
            test.countOf();
            test.same();
            test.support();
            test.total();
        }
        checks.end();
    }

    /** Promise 2: "d outside 0..7: refused, answers false. Else true." */
    private void constant() {
        int[] good = {2, 50};
        bounds("constant, d", CONSTANT, 0, LAST_PLACE, good);
        for (int c : FAR_OUTSIDE) {
            accepted("constant, any c", CONSTANT, new int[] {2, c});
        }
    }

    /** Promise 3: "d outside 0..7 or v outside 0..V-1: refused, false. Else true." */
    private void literal() {
        int[] good = {2, 1};
        bounds("literal, d", LITERAL, 0, LAST_PLACE, good);
        bounds("literal, v", LITERAL, 1, lastVariable, good);
        severalOutside("literal", LITERAL, good);
    }

    /** Promise 4: "d, a or b outside 0..7 or op outside 0..6: refused, answers false. Else true." */
    private void apply() {
        int[] good = {2, AlgebraicDiagram.PLUS, 3, 4};
        bounds("apply, d", APPLY, 0, LAST_PLACE, good);
        bounds("apply, op", APPLY, 1, LAST_OPERATION, good);
        bounds("apply, a", APPLY, 2, LAST_PLACE, good);
        bounds("apply, b", APPLY, 3, LAST_PLACE, good);
        severalOutside("apply", APPLY, good);
    }

    /** Promise 5: "d, c, a or b outside 0..7: refused, answers false. Else true." */
    private void choose() {
        int[] good = {2, 0, 3, 4};
        bounds("choose, d", CHOOSE, 0, LAST_PLACE, good);
        bounds("choose, c", CHOOSE, 1, LAST_PLACE, good);
        bounds("choose, a", CHOOSE, 2, LAST_PLACE, good);
        bounds("choose, b", CHOOSE, 3, LAST_PLACE, good);
        severalOutside("choose", CHOOSE, good);
    }

    /** Promise 6: "d or a outside 0..7, op outside 0..6 or v outside 0..V-1: refused, answers false. Else true." */
    private void fold() {
        int[] good = {2, AlgebraicDiagram.PLUS, 3, 1};
        bounds("fold, d", FOLD, 0, LAST_PLACE, good);
        bounds("fold, op", FOLD, 1, LAST_OPERATION, good);
        bounds("fold, a", FOLD, 2, LAST_PLACE, good);
        bounds("fold, v", FOLD, 3, lastVariable, good);
        severalOutside("fold", FOLD, good);
    }

    /** Promise 7: "d, a or b outside 0..7 or v outside 0..V-1: refused, answers false. Else true." */
    private void substitute() {
        int[] good = {2, 3, 1, 0};
        bounds("substitute, d", SUBSTITUTE, 0, LAST_PLACE, good);
        bounds("substitute, a", SUBSTITUTE, 1, LAST_PLACE, good);
        bounds("substitute, v", SUBSTITUTE, 2, lastVariable, good);
        bounds("substitute, b", SUBSTITUTE, 3, LAST_PLACE, good);
        severalOutside("substitute", SUBSTITUTE, good);
    }

    /** Promise 8: "d or a outside 0..7 or u or v outside 0..V-1: refused, answers false. Else true". */
    private void exchange() {
        int[] good = {2, 3, 0, 1};
        bounds("exchange, d", EXCHANGE, 0, LAST_PLACE, good);
        bounds("exchange, a", EXCHANGE, 1, LAST_PLACE, good);
        bounds("exchange, u", EXCHANGE, 2, lastVariable, good);
        bounds("exchange, v", EXCHANGE, 3, lastVariable, good);
        severalOutside("exchange", EXCHANGE, good);
    }

    /** Promise 9: "0 if f is outside 0..7 or the assignment outside 0 .. 2^V - 1." */
    private void valueAt() {
        answers("valueAt, f", (both, f) -> both.valueAt(f, 0), LAST_PLACE, 0);
        outsideAnswers("valueAt, f at the end", (both, f) -> both.valueAt(f, lastAssignment), LAST_PLACE, 0);
        for (int place = 0; place <= LAST_PLACE; place++) {
            int f = place;
            answers("valueAt, assignment of " + f, (both, x) -> withNoZero(both).valueAt(f, x), lastAssignment, 0);
        }
        outsideAnswers("valueAt, both", (both, n) -> both.valueAt(n, n), Math.max(LAST_PLACE, lastAssignment), 0);
    }

    /** Promise 10: "BAD if f is outside 0..7." */
    private void parts() {
        answers("parts, f", (both, f) -> both.parts(f), LAST_PLACE, AlgebraicDiagram.BAD);
    }

    /** Promise 11: "BAD if f is outside 0..7." */
    private void countOf() {
        answers("countOf, f", (both, f) -> both.countOf(f, -1), LAST_PLACE, AlgebraicDiagram.BAD);
        answers("countOf, f, a value of none", (both, f) -> both.countOf(f, 999), LAST_PLACE, AlgebraicDiagram.BAD);
    }

    /** Promise 12: "false if f or g is outside 0..7." */
    private void same() {
        answers("same, f and g", (both, f) -> both.same(f, f) ? 1 : 0, LAST_PLACE, 0);
        answers("same, f", (both, f) -> withEqualPlaces(both).same(f, 3) ? 1 : 0, LAST_PLACE, 0);
        answers("same, g", (both, g) -> withEqualPlaces(both).same(3, g) ? 1 : 0, LAST_PLACE, 0);
    }

    /** Promise 13: "BAD if f is outside 0..7." */
    private void support() {
        answers("support, f", (both, f) -> both.support(f), LAST_PLACE, AlgebraicDiagram.BAD);
    }

    /** Promise 14: "0 if f is outside 0..7." */
    private void total() {
        answers("total, f", (both, f) -> both.total(f), LAST_PLACE, 0);
    }

    private void bounds(String told, Writer writer, int which, int last, int[] good) {
        for (int inside = 0; inside <= last; inside++) {
            accepted(told + " = " + inside, writer, changed(good, which, inside));
        }
        refused(told + " = -1", writer, changed(good, which, -1));
        refused(told + " = " + (last + 1), writer, changed(good, which, last + 1));
        for (int outside : FAR_OUTSIDE) {
            refused(told + " = " + outside, writer, changed(good, which, outside));
        }
    }

    /** Every set of two arguments or more that are outside at once; 8 is outside for each kind of argument. */
    private void severalOutside(String told, Writer writer, int[] good) {
        for (int set = 0; set < 1 << good.length; set++) {
            if (Integer.bitCount(set) < 2) {
                continue;
            }
            int[] below = good.clone();
            int[] above = good.clone();
            for (int which = 0; which < good.length; which++) {
                if ((set >> which & 1) == 1) {
                    below[which] = -1;
                    above[which] = 8;
                }
            }
            refused(told + ", several below", writer, below);
            refused(told + ", several above", writer, above);
        }
    }

    private void accepted(String told, Writer writer, int[] given) {
        Beside both = start(told + " is accepted");
        checks.due(told + " is accepted", writer.call(both, given), true);
        both.compareAll();
    }

    /** Something kept aside by a refused call would show in the places at once, or after a later write. */
    private void refused(String told, Writer writer, int[] given) {
        Beside atOnce = start(told + " is refused");
        checks.due(told + " is refused", writer.call(atOnce, given), false);
        atOnce.compareAll();
        Beside later = start(told + " is refused, later");
        checks.due(told + " is refused, later", writer.call(later, given), false);
        writeEachWay(later);
        later.compareAll();
    }

    private void writeEachWay(Beside both) {
        both.exchange(7, 7, 0, lastVariable);
        both.fold(6, AlgebraicDiagram.MINUS, 6, 0);
        both.substitute(5, 5, lastVariable, 1);
        both.choose(4, 1, 7, 4);
        both.apply(3, AlgebraicDiagram.TIMES, 3, 5);
        both.literal(2, lastVariable);
        both.constant(1, 77);
    }

    private void answers(String told, Question question, int last, long outsideAnswer) {
        for (int inside = 0; inside <= last; inside++) {
            Beside both = start(told + " = " + inside);
            long answer = question.call(both, inside);
            checks.due(told + " = " + inside + " answers as if outside", answer == outsideAnswer, false);
            both.compareAll();
        }
        outsideAnswers(told, question, last, outsideAnswer);
    }

    private void outsideAnswers(String told, Question question, int last, long outsideAnswer) {
        wrongQuestion(told + " = -1", question, -1, outsideAnswer);
        wrongQuestion(told + " = " + (last + 1), question, last + 1, outsideAnswer);
        for (int outside : FAR_OUTSIDE) {
            wrongQuestion(told + " = " + outside, question, outside, outsideAnswer);
        }
    }

    private void wrongQuestion(String told, Question question, int outside, long outsideAnswer) {
        Beside both = start(told);
        checks.due(told, question.call(both, outside), outsideAnswer);
        writeEachWay(both);
        both.compareAll();
    }

    /** A read beyond a place's values would then meet another place's, and not answer 0. */
    private Beside withNoZero(Beside both) {
        for (int f = 0; f < 8; f++) {
            both.constant(f, 9 + f);
        }
        return both;
    }

    private Beside withEqualPlaces(Beside both) {
        for (int f = 0; f < 8; f++) {
            both.literal(f, lastVariable);
        }
        return both;
    }

    private Beside start(String told) {
        return Beside.withEightFunctions(checks, told + ", " + variables + " variables", variables);
    }

    private static int[] changed(int[] good, int which, int value) {
        int[] given = good.clone();
        given[which] = value;
        return given;
    }
}
