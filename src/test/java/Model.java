import java.util.ArrayList;
import java.util.HashSet;
import java.util.List;
import java.util.Set;

/** The document's words over lists and sets, to set beside the program: as slow and as literal as it likes. */
final class Model {
    private static final int[] WEIGHTS = {1, 2, 4, 8, 16, 32};

    private final int variables;
    private final List<List<Integer>> places = new ArrayList<>();

    private interface Rule {
        int at(int x);
    }

    Model(int variables) {
        this.variables = Math.max(2, Math.min(5, variables));
        for (int f = 0; f < 8; f++) {
            places.add(made(x -> 0));
        }
    }

    int variables() {
        return variables;
    }

    int assignments() {
        return WEIGHTS[variables];
    }

    boolean constant(int d, int c) {
        return arePlaces(d) && put(d, made(x -> c));
    }

    boolean literal(int d, int v) {
        return arePlaces(d) && isVariable(v) && put(d, made(x -> isOne(x, v) ? 1 : 0));
    }

    boolean apply(int d, int op, int a, int b) {
        return arePlaces(d, a, b) && isOperation(op) && put(d, made(x -> combined(op, at(a, x), at(b, x))));
    }

    boolean choose(int d, int c, int a, int b) {
        return arePlaces(d, c, a, b) && put(d, made(x -> at(c, x) == 0 ? at(b, x) : at(a, x)));
    }

    boolean fold(int d, int op, int a, int v) {
        return arePlaces(d, a) && isOperation(op) && isVariable(v)
                && put(d, made(x -> combined(op, at(a, with(x, v, false)), at(a, with(x, v, true)))));
    }

    boolean substitute(int d, int a, int v, int b) {
        return arePlaces(d, a, b) && isVariable(v) && put(d, made(x -> at(a, with(x, v, at(b, x) != 0))));
    }

    boolean exchange(int d, int a, int u, int v) {
        return arePlaces(d, a) && isVariable(u) && isVariable(v)
                && put(d, made(x -> at(a, with(with(x, u, isOne(x, v)), v, isOne(x, u)))));
    }

    int valueAt(int f, int assignment) {
        return arePlaces(f) && assignment >= 0 && assignment < assignments() ? at(f, assignment) : 0;
    }

    int parts(int f) {
        return arePlaces(f) ? partsOf(f).size() : -1;
    }

    int countOf(int f, int c) {
        return arePlaces(f) ? (int) places.get(f).stream().filter(value -> value == c).count() : -1;
    }

    boolean same(int f, int g) {
        return arePlaces(f, g) && places.get(f).equals(places.get(g));
    }

    int support(int f) {
        if (!arePlaces(f)) {
            return -1;
        }
        int set = 0;
        for (int v = 0; v < variables; v++) {
            int variable = v;
            if (!made(x -> at(f, with(x, variable, !isOne(x, variable)))).equals(places.get(f))) {
                set += WEIGHTS[v];
            }
        }
        return set;
    }

    long total(int f) {
        return arePlaces(f) ? places.get(f).stream().mapToLong(value -> value).sum() : 0;
    }

    int allParts() {
        Set<List<Integer>> all = new HashSet<>();
        for (int f = 0; f < 8; f++) {
            all.addAll(partsOf(f));
        }
        return all.size();
    }

    /** From the parts for k come those for k + 1, by giving variable k each of its values. */
    private Set<List<Integer>> partsOf(int f) {
        Set<List<Integer>> all = new HashSet<>();
        Set<List<Integer>> ofThisK = new HashSet<>();
        ofThisK.add(places.get(f));
        for (int k = 0; k < variables; k++) {
            int variable = k;
            Set<List<Integer>> ofNextK = new HashSet<>();
            for (List<Integer> part : ofThisK) {
                ofNextK.add(made(x -> part.get(with(x, variable, false))));
                ofNextK.add(made(x -> part.get(with(x, variable, true))));
            }
            all.addAll(ofThisK);
            ofThisK = ofNextK;
        }
        all.addAll(ofThisK);
        return all;
    }

    private static int combined(int op, int p, int q) {
        return switch (op) {
            case 0 -> (int) ((long) p + q);
            case 1 -> (int) ((long) p - q);
            case 2 -> (int) ((long) p * q);
            case 3 -> Math.min(p, q);
            case 4 -> Math.max(p, q);
            case 5 -> Integer.compare(p, q) < 0 ? 1 : 0;
            default -> Integer.compare(p, q) == 0 ? 1 : 0;
        };
    }

    private static boolean isOne(int x, int v) {
        return x / WEIGHTS[v] % 2 == 1;
    }

    private static int with(int x, int v, boolean one) {
        int weight = WEIGHTS[v];
        return x - (isOne(x, v) ? weight : 0) + (one ? weight : 0);
    }

    private static boolean arePlaces(int... numbers) {
        for (int number : numbers) {
            if (number < 0 || number > 7) {
                return false;
            }
        }
        return true;
    }

    private static boolean isOperation(int op) {
        return op >= 0 && op <= 6;
    }

    private boolean isVariable(int v) {
        return v >= 0 && v <= variables - 1;
    }

    private int at(int f, int x) {
        return places.get(f).get(x);
    }

    private List<Integer> made(Rule rule) {
        List<Integer> function = new ArrayList<>();
        for (int x = 0; x < assignments(); x++) {
            function.add(rule.at(x));
        }
        return function;
    }

    private boolean put(int d, List<Integer> function) {
        places.set(d, function);
        return true;
    }
}
