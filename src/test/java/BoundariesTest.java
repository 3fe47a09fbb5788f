/**
 * The document's sentences that name a boundary, one test each, on both sides of it and with the due answers written
 * out. What is refused is in RefusalsTest, the 512 calls are in CallLimitTest, and a written place that is also read is
 * in OverlapTest.
 */
public final class BoundariesTest {
    private static final int LOWEST = Integer.MIN_VALUE;
    private static final int HIGHEST = Integer.MAX_VALUE;
    private static final int PLUS = AlgebraicDiagram.PLUS;
    private static final int MINUS = AlgebraicDiagram.MINUS;
    private static final int TIMES = AlgebraicDiagram.TIMES;
    private static final int LEAST = AlgebraicDiagram.LEAST;
    private static final int GREATEST = AlgebraicDiagram.GREATEST;
    private static final int LESS = AlgebraicDiagram.LESS;
    private static final int EQUAL = AlgebraicDiagram.EQUAL;

    private static final Checks CHECKS = new Checks();

    public static void main(String[] args) {
        bitsOfAssignments();
        twoPlacesMayHoldTheSame();
        sumsWrap();
        differencesWrap();
        productsWrap();
        comparisonsDoNotWrap();
        partForNoVariable();
        partForAllVariables();
        partsFixTheFirstVariables();
        samePartsOfDifferentK();
        partsThatDifferAtOneAssignment();
        fewestAndMostParts();
        variablesAreClamped();
        newPlacesAreZero();
        objectsAreApart();
        constantTakesEveryInt();
        literalOfEveryVariable();
        chooseTakesOnlyZeroAsZero();
        foldOverEveryVariable();
        substituteTakesOnlyZeroAsZero();
        exchangeOfOneVariable();
        exchangeEitherWay();
        valueAtTheEnds();
        countOfNoneAndAll();
        sameButAtOneAssignment();
        supportOfOneChange();
        supportOfJointChanges();
        totalIsLong();
        sharedPartsCountOnce();
        fewestAndMostPartsOfAll();
        CHECKS.end();
    }

    /** "An ASSIGNMENT is a number from 0 to 2^V - 1 whose bit v (value 1 << v) is the value of variable v." */
    private static void bitsOfAssignments() {
        for (int variables = 2; variables <= 5; variables++) {
            AlgebraicDiagram x = new AlgebraicDiagram(variables);
            for (int v = 0; v < variables; v++) {
                x.literal(v, v);
            }
            for (int f = 0; f < variables; f++) {
                CHECKS.due("literal " + f + " at no bit", x.valueAt(f, 0), 0);
                CHECKS.due("literal " + f + " at all bits", x.valueAt(f, (1 << variables) - 1), 1);
                for (int v = 0; v < variables; v++) {
                    CHECKS.due("literal " + f + " at bit " + v, x.valueAt(f, 1 << v), f == v ? 1 : 0);
                }
            }
        }
    }

    /** "two places may hold the same function": a later write of the one leaves the other. */
    private static void twoPlacesMayHoldTheSame() {
        AlgebraicDiagram x = new AlgebraicDiagram(2);
        x.literal(1, 0);
        x.exchange(2, 1, 0, 0);
        CHECKS.due("two places with the same", x.same(1, 2), true);
        x.constant(1, 8);
        CHECKS.holds(x, "the place written", 1, 8, 8, 8, 8);
        CHECKS.holds(x, "the place left", 2, 0, 1, 0, 1);
        CHECKS.due("two places no longer the same", x.same(1, 2), false);
    }

    /** "arithmetic wraps as in Java" */
    private static void sumsWrap() {
        combined(PLUS, HIGHEST, 0, HIGHEST);
        combined(PLUS, HIGHEST, 1, LOWEST);
        combined(PLUS, LOWEST, 0, LOWEST);
        combined(PLUS, LOWEST, -1, HIGHEST);
        combined(PLUS, HIGHEST, HIGHEST, -2);
        combined(PLUS, LOWEST, LOWEST, 0);
        combined(PLUS, LOWEST, HIGHEST, -1);
    }

    /** "arithmetic wraps as in Java" */
    private static void differencesWrap() {
        combined(MINUS, LOWEST, 0, LOWEST);
        combined(MINUS, LOWEST, 1, HIGHEST);
        combined(MINUS, HIGHEST, -1, LOWEST);
        combined(MINUS, -1, LOWEST, HIGHEST);
        combined(MINUS, 0, LOWEST, LOWEST);
        combined(MINUS, 0, HIGHEST, LOWEST + 1);
        combined(MINUS, LOWEST, HIGHEST, 1);
        combined(MINUS, HIGHEST, LOWEST, -1);
    }

    /** "arithmetic wraps as in Java" */
    private static void productsWrap() {
        combined(TIMES, 46340, 46340, 2147395600);
        combined(TIMES, 46341, 46341, -2147479015);
        combined(TIMES, 65536, 32767, 2147418112);
        combined(TIMES, 65536, 32768, LOWEST);
        combined(TIMES, 65536, -32768, LOWEST);
        combined(TIMES, 65536, 65536, 0);
        combined(TIMES, 65537, 65537, 131073);
        combined(TIMES, LOWEST, 1, LOWEST);
        combined(TIMES, LOWEST, -1, LOWEST);
        combined(TIMES, LOWEST, LOWEST, 0);
        combined(TIMES, HIGHEST, -1, LOWEST + 1);
        combined(TIMES, HIGHEST, HIGHEST, 1);
        combined(TIMES, HIGHEST, LOWEST, LOWEST);
    }

    /** Promise 4 compares p and q themselves, also where their difference would wrap. */
    private static void comparisonsDoNotWrap() {
        int[][] smallerAndGreater = {{LOWEST, HIGHEST}, {LOWEST, 0}, {LOWEST, 1}, {-2, HIGHEST}, {-1, HIGHEST}, {-1, 0},
            {0, 1}, {HIGHEST - 1, HIGHEST}, {LOWEST, LOWEST + 1}, {LOWEST + 1, 1}, {0, 65536}};
        for (int[] pair : smallerAndGreater) {
            int small = pair[0];
            int great = pair[1];
            combined(LEAST, small, great, small);
            combined(LEAST, great, small, small);
            combined(GREATEST, small, great, great);
            combined(GREATEST, great, small, great);
            combined(LESS, small, great, 1);
            combined(LESS, great, small, 0);
            combined(EQUAL, small, great, 0);
            combined(EQUAL, great, small, 0);
        }
        for (int p : new int[] {LOWEST, -1, 0, 1, HIGHEST}) {
            combined(LEAST, p, p, p);
            combined(GREATEST, p, p, p);
            combined(LESS, p, p, 0);
            combined(EQUAL, p, p, 1);
        }
    }

    /** op of p and q by apply of two constants, and by fold of a function that is p below and q above. */
    private static void combined(int op, int p, int q, int due) {
        for (int variables = 2; variables <= 5; variables += 3) {
            String told = "op " + op + " of " + p + " and " + q;
            AlgebraicDiagram x = new AlgebraicDiagram(variables);
            x.constant(0, p);
            x.constant(1, q);
            CHECKS.due(told + " by apply", x.apply(2, op, 0, 1), true);
            CHECKS.holdsEverywhere(x, told + " by apply", 2, variables, due);
            for (int v = 0; v < variables; v++) {
                x.literal(3, v);
                x.choose(4, 3, 1, 0);
                CHECKS.due(told + " by fold", x.fold(5, op, 4, v), true);
                CHECKS.holdsEverywhere(x, told + " by fold", 5, variables, due);
            }
        }
    }

    /** "f itself for k = 0": a literal is a part of itself beside the constants 0 and 1. */
    private static void partForNoVariable() {
        for (int variables = 2; variables <= 5; variables++) {
            AlgebraicDiagram x = new AlgebraicDiagram(variables);
            x.literal(3, 0);
            CHECKS.due("parts of the first literal", x.parts(3), 3);
            CHECKS.due("allParts with the first literal", x.allParts(), 3);
        }
    }

    /** "and a function that is the same everywhere for k = V": the last literal is its only part up to k = V - 1. */
    private static void partForAllVariables() {
        for (int variables = 2; variables <= 5; variables++) {
            AlgebraicDiagram x = new AlgebraicDiagram(variables);
            x.literal(3, variables - 1);
            CHECKS.due("parts of the last literal", x.parts(3), 3);
            for (int f = 0; f < 8; f++) {
                x.literal(f, variables - 1);
            }
            CHECKS.due("allParts of the last literal alone", x.allParts(), 3);
        }
    }

    /** "by giving fixed values to the variables 0 to k-1": with the last variables fixed it would be 5 and 7 parts. */
    private static void partsFixTheFirstVariables() {
        AlgebraicDiagram x = new AlgebraicDiagram(3);
        x.literal(0, 0);
        x.literal(1, 1);
        x.literal(2, 2);
        x.choose(3, 2, 0, 1);
        CHECKS.due("parts, the last variable chooses", x.parts(3), 7);
        x.choose(3, 0, 2, 1);
        CHECKS.due("parts, the first variable chooses", x.parts(3), 5);
    }

    /** "Two parts are the same iff they have the same value at every assignment", of whatever k they come. */
    private static void samePartsOfDifferentK() {
        AlgebraicDiagram x = new AlgebraicDiagram(3);
        Tables.fill(x, 0, 4, 4, 7, 7, 7, 7, 4, 4);
        CHECKS.due("parts without variable 0", x.parts(0), 5);
        Tables.fill(x, 0, 4, 7, 4, 7, 7, 4, 7, 4);
        CHECKS.due("parts without variable 1", x.parts(0), 5);
        Tables.fill(x, 0, 4, 7, 7, 4, 4, 7, 7, 4);
        CHECKS.due("parts without variable 2", x.parts(0), 5);
        x.constant(0, 4);
        CHECKS.due("parts without any variable", x.parts(0), 1);
    }

    /** "Two parts are the same iff they have the same value at every assignment": one that differs parts them. */
    private static void partsThatDifferAtOneAssignment() {
        AlgebraicDiagram x = new AlgebraicDiagram(3);
        Tables.fill(x, 0, 1, 1, 2, 2, 3, 3, 4, 4);
        CHECKS.due("parts, both halves the same", x.parts(0), 7);
        int[][] unlike = {{9, 1, 2, 2, 3, 3, 4, 4}, {1, 1, 9, 2, 3, 3, 4, 4}, {1, 1, 2, 2, 3, 9, 4, 4},
            {1, 1, 2, 2, 3, 3, 4, 9}};
        for (int[] values : unlike) {
            Tables.fill(x, 0, values);
            CHECKS.due("parts, the halves differ at one assignment", x.parts(0), 11);
        }
    }

    /** Promise 10: one part if all values are the same, 1 + 2 + .. + 2^V if all are different. */
    private static void fewestAndMostParts() {
        int[] most = {0, 0, 7, 15, 31, 63};
        for (int variables = 2; variables <= 5; variables++) {
            AlgebraicDiagram x = new AlgebraicDiagram(variables);
            for (int f = 0; f < 8; f += 7) {
                CHECKS.due("fewest parts", x.parts(f), 1);
                Tables.number(x, f, variables);
                CHECKS.due("most parts", x.parts(f), most[variables]);
                CHECKS.due("most parts, asked again", x.parts(f), most[variables]);
            }
        }
    }

    /** Promise 1: "V is variables clamped into 2..5." */
    private static void variablesAreClamped() {
        int[][] givenAndV = {{LOWEST, 2}, {-5, 2}, {-1, 2}, {0, 2}, {1, 2}, {2, 2}, {3, 3}, {4, 4}, {5, 5}, {6, 5},
            {7, 5}, {32, 5}, {34, 5}, {258, 5}, {HIGHEST, 5}};
        for (int[] pair : givenAndV) {
            String told = "new AlgebraicDiagram(" + pair[0] + ") ";
            int v = pair[1];
            AlgebraicDiagram x = new AlgebraicDiagram(pair[0]);
            CHECKS.due(told + "has the last variable", x.literal(0, v - 1), true);
            CHECKS.due(told + "has no variable more", x.literal(0, v), false);
            CHECKS.due(told + "support of the last variable", x.support(0), 1 << (v - 1));
            CHECKS.due(told + "at the last assignment", x.valueAt(0, (1 << v) - 1), 1);
            CHECKS.due(told + "after the last assignment", x.valueAt(0, 1 << v), 0);
            CHECKS.due(told + "count of half the assignments", x.countOf(0, 1), 1 << (v - 1));
            x.constant(1, 1);
            CHECKS.due(told + "after the last assignment of 1", x.valueAt(1, 1 << v), 0);
            CHECKS.due(told + "count of all assignments", x.countOf(1, 1), 1 << v);
            CHECKS.due(told + "sum over all assignments", x.total(1), 1L << v);
        }
    }

    /** Promise 1: "All eight functions are 0 everywhere." */
    private static void newPlacesAreZero() {
        for (int given : new int[] {LOWEST, 1, 2, 3, 4, 5, 6, HIGHEST}) {
            AlgebraicDiagram x = new AlgebraicDiagram(given);
            int variables = Math.max(2, Math.min(5, given));
            for (int f = 0; f < 8; f++) {
                CHECKS.holdsEverywhere(x, "a new place", f, variables, 0);
                CHECKS.due("a new place: countOf", x.countOf(f, 0), 1 << variables);
                CHECKS.due("a new place: parts", x.parts(f), 1);
                CHECKS.due("a new place: support", x.support(f), 0);
                CHECKS.due("a new place: total", x.total(f), 0L);
                CHECKS.due("a new place: same", x.same(f, 7 - f), true);
            }
            CHECKS.due("new places: allParts", x.allParts(), 1);
        }
    }

    /** Promise 1 speaks of each new object, whatever others were used for, and of its own V. */
    private static void objectsAreApart() {
        AlgebraicDiagram large = new AlgebraicDiagram(5);
        Tables.number(large, 0, 5);
        AlgebraicDiagram small = new AlgebraicDiagram(2);
        CHECKS.due("the new one: allParts", small.allParts(), 1);
        CHECKS.holdsEverywhere(small, "the new one", 0, 2, 0);
        CHECKS.due("the new one: no variable 2", small.literal(0, 2), false);
        CHECKS.due("the old one: variable 4", large.literal(1, 4), true);
        small.constant(0, 9);
        CHECKS.due("the old one: total", large.total(0), 496L);
        CHECKS.due("the old one: parts", large.parts(0), 63);
    }

    /** Promise 2 sets no bound to c. */
    private static void constantTakesEveryInt() {
        AlgebraicDiagram x = new AlgebraicDiagram(2);
        for (int c : new int[] {LOWEST, LOWEST + 1, -1, 0, 1, HIGHEST - 1, HIGHEST}) {
            for (int d = 0; d < 8; d += 7) {
                CHECKS.due("constant " + c, x.constant(d, c), true);
                CHECKS.holdsEverywhere(x, "constant " + c, d, 2, c);
            }
        }
    }

    /** Promise 3: the first and the last variable, at the first and the last place. */
    private static void literalOfEveryVariable() {
        for (int variables = 2; variables <= 5; variables++) {
            AlgebraicDiagram x = new AlgebraicDiagram(variables);
            for (int v = 0; v < variables; v++) {
                int d = v == 0 ? 0 : 7;
                CHECKS.due("literal " + v, x.literal(d, v), true);
                for (int at = 0; at < 1 << variables; at++) {
                    CHECKS.due("literal " + v + " at " + at, x.valueAt(d, at), at / (1 << v) % 2);
                }
            }
        }
    }

    /** Promise 5: "a's value where c's value is not 0 and b's value where it is 0". */
    private static void chooseTakesOnlyZeroAsZero() {
        AlgebraicDiagram x = new AlgebraicDiagram(2);
        x.constant(1, 10);
        x.constant(2, 20);
        for (int c : new int[] {LOWEST, -65536, -2, -1, 1, 2, 256, 65536, HIGHEST}) {
            x.constant(0, c);
            x.choose(3, 0, 1, 2);
            CHECKS.holdsEverywhere(x, "choose by " + c, 3, 2, 10);
        }
        x.constant(0, 0);
        x.choose(3, 0, 1, 2);
        CHECKS.holdsEverywhere(x, "choose by 0", 3, 2, 20);
    }

    /** Promise 6: p is at v set to 0 and q at v set to 1, for the first variable and the last. */
    private static void foldOverEveryVariable() {
        for (int variables = 2; variables <= 5; variables++) {
            AlgebraicDiagram x = new AlgebraicDiagram(variables);
            Tables.number(x, 0, variables);
            for (int v = 0; v < variables; v++) {
                x.fold(1, MINUS, 0, v);
                CHECKS.holdsEverywhere(x, "fold of the numbers over " + v, 1, variables, -(1 << v));
                x.fold(2, LEAST, 0, v);
                CHECKS.due("the least at the end", x.valueAt(2, (1 << variables) - 1), (1 << variables) - 1 - (1 << v));
                x.fold(2, GREATEST, 0, v);
                CHECKS.due("the greatest at the start", x.valueAt(2, 0), 1 << v);
            }
        }
    }

    /** Promise 7: "set to 1 if b's value at x is not 0, and set to 0 if it is 0". */
    private static void substituteTakesOnlyZeroAsZero() {
        for (int variables = 2; variables <= 5; variables++) {
            AlgebraicDiagram x = new AlgebraicDiagram(variables);
            int last = variables - 1;
            for (int v = 0; v <= last; v += last) {
                x.literal(0, v);
                for (int b : new int[] {LOWEST, -65536, -2, -1, 1, 2, 256, 65536, HIGHEST}) {
                    x.constant(1, b);
                    x.substitute(2, 0, v, 1);
                    CHECKS.due("variable " + v + " set by " + b, x.countOf(2, 1), 1 << variables);
                }
                x.constant(1, 0);
                x.substitute(2, 0, v, 1);
                CHECKS.due("variable " + v + " set by 0", x.countOf(2, 0), 1 << variables);
            }
        }
    }

    /** Promise 8: "(u = v: d becomes a)", and an u = v outside is refused all the same. */
    private static void exchangeOfOneVariable() {
        for (int variables = 2; variables <= 5; variables++) {
            AlgebraicDiagram x = new AlgebraicDiagram(variables);
            Tables.number(x, 0, variables);
            for (int v = 0; v < variables; v++) {
                x.constant(7, 5);
                CHECKS.due("exchange of " + v + " with itself", x.exchange(7, 0, v, v), true);
                CHECKS.due("exchange of " + v + " with itself: d is a", x.same(7, 0), true);
                CHECKS.due("exchange of " + v + " with itself, d = a", x.exchange(7, 7, v, v), true);
                CHECKS.due("exchange of " + v + " with itself, d = a: as before", x.same(7, 0), true);
            }
            x.constant(7, 5);
            for (int no : new int[] {-1, variables, 32, LOWEST, HIGHEST}) {
                CHECKS.due("exchange of " + no + " with itself", x.exchange(7, 0, no, no), false);
                CHECKS.due("exchange of " + no + " with itself, d = a", x.exchange(0, 0, no, no), false);
            }
            CHECKS.due("refused exchanges leave d", x.countOf(7, 5), 1 << variables);
            CHECKS.due("refused exchanges leave a", x.valueAt(0, (1 << variables) - 1), (1 << variables) - 1);
        }
    }

    /** Promise 8: u and v may stand in either order, and a second exchange undoes the first. */
    private static void exchangeEitherWay() {
        for (int variables = 2; variables <= 5; variables++) {
            AlgebraicDiagram x = new AlgebraicDiagram(variables);
            Tables.number(x, 0, variables);
            int last = variables - 1;
            x.exchange(1, 0, 0, last);
            x.exchange(2, 0, last, 0);
            CHECKS.due("exchange either way", x.same(1, 2), true);
            CHECKS.due("exchange is seen", x.same(1, 0), false);
            CHECKS.due("exchange: the first bit", x.valueAt(1, 1), 1 << last);
            CHECKS.due("exchange: the last bit", x.valueAt(1, 1 << last), 1);
            x.exchange(1, 1, 0, last);
            CHECKS.due("exchange undone", x.same(1, 0), true);
        }
    }

    /** Promise 9: the first and the last assignment of the first and the last place. */
    private static void valueAtTheEnds() {
        for (int variables = 2; variables <= 5; variables++) {
            AlgebraicDiagram x = new AlgebraicDiagram(variables);
            int last = (1 << variables) - 1;
            for (int f = 0; f < 8; f++) {
                x.constant(f, 100 + f);
            }
            for (int f = 0; f < 8; f++) {
                CHECKS.due("valueAt(" + f + ", -1)", x.valueAt(f, -1), 0);
                CHECKS.due("valueAt(" + f + ", 0)", x.valueAt(f, 0), 100 + f);
                CHECKS.due("valueAt(" + f + ", " + last + ")", x.valueAt(f, last), 100 + f);
                CHECKS.due("valueAt(" + f + ", " + (last + 1) + ")", x.valueAt(f, last + 1), 0);
            }
            CHECKS.due("valueAt(-1, 0)", x.valueAt(-1, 0), 0);
            CHECKS.due("valueAt(-1, last)", x.valueAt(-1, last), 0);
            CHECKS.due("valueAt(8, 0)", x.valueAt(8, 0), 0);
            CHECKS.due("valueAt(8, last)", x.valueAt(8, last), 0);
        }
    }

    /** Promise 11: a value of no assignment, of one, and of all; 0 is counted like any other. */
    private static void countOfNoneAndAll() {
        for (int variables = 2; variables <= 5; variables++) {
            int all = 1 << variables;
            AlgebraicDiagram x = new AlgebraicDiagram(variables);
            for (int c : new int[] {LOWEST, -1, 0, 1, HIGHEST}) {
                x.constant(7, c);
                CHECKS.due("countOf all " + c, x.countOf(7, c), all);
                CHECKS.due("countOf one more than " + c, x.countOf(7, c + 1), 0);
                CHECKS.due("countOf one less than " + c, x.countOf(7, c - 1), 0);
            }
            for (int at = 0; at < all; at += all - 1) {
                Tables.point(x, 7, at, variables);
                CHECKS.due("countOf one", x.countOf(7, 1), 1);
                CHECKS.due("countOf all but one", x.countOf(7, 0), all - 1);
            }
        }
    }

    /** Promise 12: the same function, or one that differs at the first or the last assignment alone. */
    private static void sameButAtOneAssignment() {
        for (int variables = 2; variables <= 5; variables++) {
            for (int at = 0; at < 1 << variables; at++) {
                AlgebraicDiagram x = new AlgebraicDiagram(variables);
                Tables.number(x, 0, variables);
                Tables.number(x, 7, variables);
                CHECKS.due("same", x.same(0, 7), true);
                Tables.point(x, 1, at, variables);
                x.apply(7, PLUS, 7, 1);
                CHECKS.due("same but at " + at, x.same(0, 7), false);
                CHECKS.due("same but at " + at + ", the other way", x.same(7, 0), false);
                CHECKS.due("same with itself", x.same(7, 7), true);
            }
        }
    }

    /** Promise 13: "changing variable v alone changes the value at some assignment": one assignment is enough. */
    private static void supportOfOneChange() {
        for (int variables = 2; variables <= 5; variables++) {
            int all = (1 << variables) - 1;
            for (int at = 0; at <= all; at++) {
                AlgebraicDiagram x = new AlgebraicDiagram(variables);
                Tables.point(x, 7, at, variables);
                CHECKS.due("support of the point " + at, x.support(7), all);
                for (int v = 0; v < variables; v++) {
                    x.fold(1, PLUS, 7, v);
                    CHECKS.due("support of the point " + at + " without " + v, x.support(1), all - (1 << v));
                }
            }
            AlgebraicDiagram y = new AlgebraicDiagram(variables);
            y.constant(0, HIGHEST);
            CHECKS.due("support of a constant", y.support(0), 0);
        }
    }

    /** Promise 13: of variable v "alone": where u and v count only together, each of them counts. */
    private static void supportOfJointChanges() {
        AlgebraicDiagram x = new AlgebraicDiagram(3);
        Tables.fill(x, 0, 6, 7, 6, 7, 7, 6, 7, 6);
        CHECKS.due("support of an exclusive or of 0 and 2", x.support(0), 5);
        Tables.fill(x, 0, 0, 0, 0, LOWEST, 0, 0, 0, LOWEST);
        CHECKS.due("support of an and of 0 and 1", x.support(0), 3);
        Tables.fill(x, 0, 0, 0, 0, 0, 0, 0, 65536, 65536);
        CHECKS.due("support of an and of 1 and 2", x.support(0), 6);
    }

    /** Promise 14: "The sum of place f's values over all assignments, as a long". */
    private static void totalIsLong() {
        AlgebraicDiagram x = new AlgebraicDiagram(2);
        Tables.fill(x, 0, HIGHEST, 0, 0, 0);
        CHECKS.due("total, the greatest int", x.total(0), 2147483647L);
        Tables.fill(x, 0, HIGHEST, 0, 0, 1);
        CHECKS.due("total, one more", x.total(0), 2147483648L);
        Tables.fill(x, 0, 0, LOWEST, 0, 0);
        CHECKS.due("total, the least int", x.total(0), -2147483648L);
        Tables.fill(x, 0, 0, LOWEST, -1, 0);
        CHECKS.due("total, one less", x.total(0), -2147483649L);
        Tables.fill(x, 0, HIGHEST, HIGHEST, LOWEST, LOWEST);
        CHECKS.due("total, back again", x.total(0), -2L);
        long[] greatest = {0, 0, 8589934588L, 17179869176L, 34359738352L, 68719476704L};
        long[] least = {0, 0, -8589934592L, -17179869184L, -34359738368L, -68719476736L};
        for (int variables = 2; variables <= 5; variables++) {
            AlgebraicDiagram y = new AlgebraicDiagram(variables);
            y.constant(7, HIGHEST);
            CHECKS.due("the greatest total", y.total(7), greatest[variables]);
            y.constant(7, LOWEST);
            CHECKS.due("the least total", y.total(7), least[variables]);
            CHECKS.due("the total of 0", y.total(0), 0L);
        }
    }

    /** Promise 15: "a part that several have counts once", of whatever places and k. */
    private static void sharedPartsCountOnce() {
        for (int variables = 2; variables <= 5; variables++) {
            int most = (2 << variables) - 1;
            AlgebraicDiagram x = new AlgebraicDiagram(variables);
            Tables.number(x, 0, variables);
            CHECKS.due("allParts, 0 is a part of the numbers", x.allParts(), most);
            for (int f = 1; f < 8; f++) {
                Tables.number(x, f == 6 ? 0 : f, variables);
                CHECKS.due("allParts, the numbers once more", x.allParts(), most);
            }
            x.constant(7, 1);
            CHECKS.due("allParts, a part for k = V as a function of its own", x.allParts(), most);
            x.constant(7, -1);
            CHECKS.due("allParts, a constant that is no part", x.allParts(), most + 1);
            x.constant(6, -1);
            CHECKS.due("allParts, that constant twice", x.allParts(), most + 1);
            x.literal(5, 0);
            CHECKS.due("allParts, the literal whose constants are parts", x.allParts(), most + 2);
        }
        sharedInnerPart();
    }

    /** A part for k = 1 of one place is another place's whole function, for k = 0. */
    private static void sharedInnerPart() {
        AlgebraicDiagram x = new AlgebraicDiagram(2);
        x.literal(0, 0);
        x.literal(1, 1);
        x.apply(2, TIMES, 0, 1);
        CHECKS.due("the and alone", x.parts(2), 4);
        CHECKS.due("allParts with both literals", x.allParts(), 5);
        x.constant(0, 0);
        CHECKS.due("allParts with the inner literal", x.allParts(), 4);
        x.constant(1, 0);
        CHECKS.due("allParts with the and alone", x.allParts(), 4);
    }

    /** Promise 15: one part if all is 0; if no two places share a part, all of theirs. */
    private static void fewestAndMostPartsOfAll() {
        int[] most = {0, 0, 56, 120, 248, 504};
        for (int variables = 2; variables <= 5; variables++) {
            AlgebraicDiagram x = new AlgebraicDiagram(variables);
            CHECKS.due("fewest parts of all", x.allParts(), 1);
            Tables.number(x, 0, variables);
            for (int f = 1; f < 8; f++) {
                x.constant(f, f << variables);
                x.apply(f, PLUS, f, 0);
            }
            CHECKS.due("most parts of all", x.allParts(), most[variables]);
            CHECKS.due("most parts of all, asked again", x.allParts(), most[variables]);
            CHECKS.due("parts of one after it", x.parts(7), most[variables] / 8);
            x.constant(7, 0);
            CHECKS.due("most parts of seven places", x.allParts(), most[variables] / 8 * 7);
        }
    }
}
