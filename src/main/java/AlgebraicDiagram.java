/**
 * Integer functions of a few boolean variables, in eight places.
 *
 * With at most 5 variables a function has at most 32 values, so each place keeps its whole table of values: two
 * functions are the same iff their tables are, and the parts of a diagram are counted when they are asked for.
 */
public final class AlgebraicDiagram {
    public static final int PLUS = 0;
    public static final int MINUS = 1;
    public static final int TIMES = 2;
    public static final int LEAST = 3;
    public static final int GREATEST = 4;
    public static final int LESS = 5;
    public static final int EQUAL = 6;
    public static final int BAD = -1;

    private static final int PLACES = 8;
    private static final int FEWEST_VARIABLES = 2;
    private static final int MOST_VARIABLES = 5;
    /** The length of a table: 2^5 assignments. */
    private static final int ROW = 32;
    private static final int ALL_VALUES = 256;
    /** Room for 8 functions with 1 + 2 + 4 + 8 + 16 + 32 = 63 parts each, a row for every part. */
    private static final int ALL_PART_VALUES = 16128;

    private final int variables;
    private final int assignments;

    /** The value of place f at assignment x stands at f * ROW + x. */
    private final int[] values = new int[ALL_VALUES];

    /** A new function is made here first, since the place that it goes to may also be read for it. */
    private final int[] made = new int[ROW];

    /** The different parts found so far in one count, a row each; the row after them is for the next candidate. */
    private final int[] partValues = new int[ALL_PART_VALUES];
    private int partsFound = 0;

    public AlgebraicDiagram(int variables) {
        int clamped = variables;
        if (clamped < FEWEST_VARIABLES) {
            clamped = FEWEST_VARIABLES;
        }
        if (clamped > MOST_VARIABLES) {
            clamped = MOST_VARIABLES;
        }
        this.variables = clamped;
        this.assignments = 1 << clamped;
    }

    public boolean constant(int d, int c) {
        if (!isPlace(d)) {
            return false;
        }
        for (int x = 0; x < assignments; x++) {
            made[x] = c;
        }
        putMade(d);
        return true;
    }

    public boolean literal(int d, int v) {
        if (!isPlace(d) || !isVariable(v)) {
            return false;
        }
        for (int x = 0; x < assignments; x++) {
            made[x] = (x >> v) & 1;
        }
        putMade(d);
        return true;
    }

    public boolean apply(int d, int op, int a, int b) {
        if (!isPlace(d) || !isOperation(op) || !isPlace(a) || !isPlace(b)) {
            return false;
        }
        for (int x = 0; x < assignments; x++) {
            made[x] = combine(op, values[a * ROW + x], values[b * ROW + x]);
        }
        putMade(d);
        return true;
    }

    public boolean choose(int d, int c, int a, int b) {
        if (!isPlace(d) || !isPlace(c) || !isPlace(a) || !isPlace(b)) {
            return false;
        }
        for (int x = 0; x < assignments; x++) {
            int chosen = values[c * ROW + x] != 0 ? a : b;
            made[x] = values[chosen * ROW + x];
        }
        putMade(d);
        return true;
    }

    public boolean fold(int d, int op, int a, int v) {
        if (!isPlace(d) || !isOperation(op) || !isPlace(a) || !isVariable(v)) {
            return false;
        }
        int bit = 1 << v;
        for (int x = 0; x < assignments; x++) {
            int p = values[a * ROW + (x & ~bit)];
            int q = values[a * ROW + (x | bit)];
            made[x] = combine(op, p, q);
        }
        putMade(d);
        return true;
    }

    public boolean substitute(int d, int a, int v, int b) {
        if (!isPlace(d) || !isPlace(a) || !isVariable(v) || !isPlace(b)) {
            return false;
        }
        int bit = 1 << v;
        for (int x = 0; x < assignments; x++) {
            int y = values[b * ROW + x] != 0 ? x | bit : x & ~bit;
            made[x] = values[a * ROW + y];
        }
        putMade(d);
        return true;
    }

    public boolean exchange(int d, int a, int u, int v) {
        if (!isPlace(d) || !isPlace(a) || !isVariable(u) || !isVariable(v)) {
            return false;
        }
        for (int x = 0; x < assignments; x++) {
            int y = withExchanged(x, u, v);
            made[x] = values[a * ROW + y];
        }
        putMade(d);
        return true;
    }

    public int valueAt(int f, int assignment) {
        if (!isPlace(f) || assignment < 0 || assignment >= assignments) {
            return 0;
        }
        return values[f * ROW + assignment];
    }

    public int parts(int f) {
        if (!isPlace(f)) {
            return BAD;
        }
        partsFound = 0;
        gatherParts(f);
        return partsFound;
    }

    public int countOf(int f, int c) {
        if (!isPlace(f)) {
            return BAD;
        }
        int count = 0;
        for (int x = 0; x < assignments; x++) {
            if (values[f * ROW + x] == c) {
                count++;
            }
        }
        return count;
    }

    public boolean same(int f, int g) {
        if (!isPlace(f) || !isPlace(g)) {
            return false;
        }
        for (int x = 0; x < assignments; x++) {
            if (values[f * ROW + x] != values[g * ROW + x]) {
                return false;
            }
        }
        return true;
    }

    public int support(int f) {
        if (!isPlace(f)) {
            return BAD;
        }
        int set = 0;
        for (int v = 0; v < variables; v++) {
            if (dependsOn(f, v)) {
                set |= 1 << v;
            }
        }
        return set;
    }

    public long total(int f) {
        if (!isPlace(f)) {
            return 0L;
        }
        long sum = 0L;
        for (int x = 0; x < assignments; x++) {
            sum += values[f * ROW + x];
        }
        return sum;
    }

    public int allParts() {
        partsFound = 0;
        for (int f = 0; f < PLACES; f++) {
            gatherParts(f);
        }
        return partsFound;
    }

    private static boolean isPlace(int f) {
        return f >= 0 && f < PLACES;
    }

    private static boolean isOperation(int op) {
        return op >= PLUS && op <= EQUAL;
    }

    private boolean isVariable(int v) {
        return v >= 0 && v < variables;
    }

    private static int combine(int op, int p, int q) {
        switch (op) {
            case PLUS:
                return p + q;
            case MINUS:
                return p - q;
            case TIMES:
                return p * q;
            case LEAST:
                return p < q ? p : q;
            case GREATEST:
                return p > q ? p : q;
            case LESS:
                return p < q ? 1 : 0;
            default:
                return p == q ? 1 : 0;
        }
    }

    private static int withExchanged(int x, int u, int v) {
        int bitOfU = (x >> u) & 1;
        int bitOfV = (x >> v) & 1;
        if (bitOfU == bitOfV) {
            return x;
        }
        return x ^ (1 << u) ^ (1 << v);
    }

    private void putMade(int d) {
        for (int x = 0; x < assignments; x++) {
            values[d * ROW + x] = made[x];
        }
    }

    private boolean dependsOn(int f, int v) {
        for (int x = 0; x < assignments; x++) {
            if (values[f * ROW + x] != values[f * ROW + (x ^ (1 << v))]) {
                return true;
            }
        }
        return false;
    }

    private void gatherParts(int f) {
        for (int k = 0; k <= variables; k++) {
            for (int fixed = 0; fixed < (1 << k); fixed++) {
                writeCandidate(f, k, fixed);
                if (isCandidateNew()) {
                    partsFound++;
                }
            }
        }
    }

    /** The part is written out over all assignments, so that parts of different k compare as functions. */
    private void writeCandidate(int f, int k, int fixed) {
        int kept = -1 << k;
        for (int x = 0; x < assignments; x++) {
            partValues[partsFound * ROW + x] = values[f * ROW + ((x & kept) | fixed)];
        }
    }

    private boolean isCandidateNew() {
        for (int part = 0; part < partsFound; part++) {
            if (areRowsEqual(part, partsFound)) {
                return false;
            }
        }
        return true;
    }

    private boolean areRowsEqual(int one, int other) {
        for (int x = 0; x < assignments; x++) {
            if (partValues[one * ROW + x] != partValues[other * ROW + x]) {
                return false;
            }
        }
        return true;
    }
}
