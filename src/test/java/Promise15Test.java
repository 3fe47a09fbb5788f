/**
 * Promise 15: "The number of different parts that the functions of all eight places have together (a part that several
 * have counts once)."
 */
public final class Promise15Test {
    private static final int PLUS = AlgebraicDiagram.PLUS;
    private static final int TIMES = AlgebraicDiagram.TIMES;
    private static final Checks CHECKS = new Checks();

    public static void main(String[] args) {
        for (int variables = 2; variables <= 5; variables++) {
            oneMoreAfterTheOther(variables);
            placesOfEight(variables);
            constantsOnly(variables);
            everyPlaceCounts(variables);
            partOfOneIsAllOfAnother(variables);
        }
        mostOfAll(2, 7, 49, 56);
        mostOfAll(3, 15, 105, 120);
        mostOfAll(4, 31, 217, 248);
        mostOfAll(5, 63, 441, 504);
        CHECKS.end();
    }

    private static void oneMoreAfterTheOther(int variables) {
        Run x = new Run(CHECKS, variables);
        // 0 alone.
        x.due(1).allParts();
        // Literal 0 and 1 come with it.
        x.literal(0, 0);
        x.due(3).allParts();
        // Literal 1; its 0 and 1 are there.
        x.literal(1, 1);
        x.due(4).allParts();
        x.literal(7, 1);
        x.due(4).allParts();
        // The sum, literal 1 plus 1, and 2; literal 1, 0 and 1 are there.
        x.apply(2, PLUS, 0, 1);
        x.due(7).allParts();
        // The product; literal 1, 0 and 1 are there.
        x.apply(3, TIMES, 0, 1);
        x.due(8).allParts();
        // Its parts are there.
        x.constant(6, 2);
        x.due(8).allParts();
        x.constant(6, 3);
        x.due(9).allParts();
    }

    /** Literals 0 and 1, sum, difference, product, less, equal and 9, the parts that are not yet there in brackets. */
    private static void placesOfEight(int variables) {
        Run x = new Run(CHECKS, variables);
        x.givenEight();
        // Literal 0: [itself], [0], [1]. Literal 1: [itself]. Sum: [itself], [literal 1 plus 1], [2].
        // Difference: [itself], [0 - literal 1], [1 - literal 1], [-1]. Product: [itself]. Less: [itself].
        // Equal: [itself]; its parts for k = 1 are literal 1 and 1 - literal 1. And [9].
        x.due(15).allParts();
        x.holdsEight();
    }

    private static void constantsOnly(int variables) {
        Run x = new Run(CHECKS, variables);
        for (int f = 0; f < 8; f++) {
            x.constant(f, 5);
        }
        x.due(1).allParts();
        for (int f = 0; f < 8; f++) {
            x.constant(f, 50 + f);
            // The last 5 goes with the last place.
            x.due(f == 7 ? 8 : f + 2).allParts();
        }
    }

    /** Whichever place has the one function with 6 parts, 1 is new for it alone and 0 is there already. */
    private static void everyPlaceCounts(int variables) {
        for (int d = 0; d < 8; d++) {
            Run x = new Run(CHECKS, variables);
            int other = d == 0 ? 1 : 0;
            x.literal(d, 0);
            x.literal(other, 1);
            x.apply(d, PLUS, d, other);
            x.constant(other, 0);
            x.due(6).parts(d);
            x.due(6).allParts();
            x.constant(other, -1);
            x.due(7).allParts();
        }
    }

    /** "a part that several have counts once", also if it is of k = 0 for one place and of k = 1 for another. */
    private static void partOfOneIsAllOfAnother(int variables) {
        Run x = new Run(CHECKS, variables);
        x.literal(0, 0);
        x.literal(1, 1);
        x.apply(2, TIMES, 0, 1);
        x.due(4).parts(2);
        x.due(5).allParts();
        x.constant(0, 0);
        x.due(4).allParts();
        x.constant(1, 0);
        x.due(4).allParts();
        x.literal(1, variables - 1);
        x.due(variables == 2 ? 4 : 5).allParts();
    }

    /** Eight functions whose values are all different: no part is shared. */
    private static void mostOfAll(int variables, int ofOne, int ofSeven, int ofEight) {
        Run x = new Run(CHECKS, variables);
        x.givenNumbers(0);
        x.due(ofOne).allParts();
        for (int f = 1; f < 8; f++) {
            x.constant(f, 100 * f);
            x.apply(f, PLUS, f, 0);
        }
        x.due(ofEight).allParts();
        x.due(ofEight).allParts();
        x.due(ofOne).parts(7);
        x.due(ofEight).allParts();
        // 0 is a part of place 0.
        x.constant(7, 0);
        x.due(ofSeven).allParts();
        x.constant(7, -1);
        x.due(ofSeven + 1).allParts();
        for (int f = 1; f < 8; f++) {
            x.exchange(f, 0, 1, 1);
        }
        x.due(ofOne).allParts();
    }
}
