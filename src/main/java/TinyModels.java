/**
 * First-order formulas over one property and one relation, and all their
 * models with one to three elements.
 *
 * Truth is worked out for all element lists at once: the lists for which a
 * formula holds are the binary digits, 0 to 26, of one int. A formula is
 * valid if it holds for every list of the domain.
 */
public final class TinyModels {
    private static final int HAS = 0;
    private static final int SAME = 2;
    private static final int REACH = 3;
    private static final int NOT = 4;
    private static final int AND = 5;
    private static final int OR = 6;
    private static final int IMPLIES = 7;
    private static final int IFF = 8;
    private static final int ALL = 9;
    private static final int SOME = 10;
    private static final int MANY = 11;

    private static final int MOST_ELEMENTS = 3;
    private static final int MOST_FORMULAS = 6;
    private static final int MOST_AXIOMS = 6;
    private static final int MOST_TOKENS = 24;
    private static final int ALL_LISTS = 27;

    // Stack and axioms share one store, so that one evaluation serves both:
    // the stack is slots 0 to 5, the axioms are the slots from here on.
    private static final int FIRST_AXIOM = MOST_FORMULAS;
    private static final int SLOTS = MOST_FORMULAS + MOST_AXIOMS;
    private static final int CELLS = SLOTS * MOST_TOKENS;

    private static final int NO_AXIOM = -1;
    private static final int NO_MODEL = -2;

    // The pairs (e, e), where the pair (e, f) is the digit 3 * e + f.
    private static final int SAME_PAIRS = 0b100_010_001;

    // The lists (x, y, z) = x + 3 * y + 9 * z whose elements are all below d.
    private static final int LISTS_OF_ONE = 0b1;
    private static final int LISTS_OF_TWO = 0b011_011_000_011_011;
    private static final int LISTS_OF_THREE = 0b111_111_111_111_111_111_111_111_111;

    // The lists in which variable 0, 1 or 2 has the element 0.
    private static final int ZERO_AT_0 = 0b001_001_001_001_001_001_001_001_001;
    private static final int ZERO_AT_1 = 0b000_000_111_000_000_111_000_000_111;
    private static final int ZERO_AT_2 = 0b000_000_000_000_000_000_111_111_111;

    // Formulas are kept as their tokens in the order in which they were put.
    private final int[] kinds = new int[CELLS];
    private final int[] arguments = new int[CELLS];
    private final int[] lengths = new int[SLOTS];
    private final int[] work = new int[MOST_TOKENS];

    private int elements;
    private int formulas;
    private int axioms;

    public TinyModels() {
        elements = 2;
        formulas = 0;
        axioms = 0;
    }

    public int domain(int d) {
        if (d < 1 || d > MOST_ELEMENTS) {
            return -1;
        }
        elements = d;
        return interpretations(d);
    }

    public int token(int kind, int a) {
        if (!isToken(kind, a)) {
            return -1;
        }
        int taken = takes(kind);
        if (formulas < taken) {
            return -2;
        }
        if (taken == 0 && formulas == MOST_FORMULAS) {
            return -3;
        }
        int slot = formulas - taken;
        int length = 1;
        for (int s = slot; s < formulas; s++) {
            length += lengths[s];
        }
        if (length > MOST_TOKENS) {
            return -4;
        }
        if (taken == 2) {
            append(slot + 1, slot);
        }
        kinds[slot * MOST_TOKENS + length - 1] = kind;
        arguments[slot * MOST_TOKENS + length - 1] = a;
        lengths[slot] = length;
        formulas = slot + 1;
        return formulas;
    }

    public int drop() {
        if (formulas == 0) {
            return -1;
        }
        formulas--;
        return formulas;
    }

    public int axiom() {
        if (formulas == 0) {
            return -1;
        }
        if (axioms == MOST_AXIOMS) {
            return -2;
        }
        formulas--;
        replace(formulas, FIRST_AXIOM + axioms);
        axioms++;
        return axioms;
    }

    public int retract(int i) {
        if (i < 0 || i >= axioms) {
            return -1;
        }
        axioms--;
        for (int later = i; later < axioms; later++) {
            replace(FIRST_AXIOM + later + 1, FIRST_AXIOM + later);
        }
        return axioms;
    }

    public int models() {
        int all = interpretations(elements);
        int count = 0;
        for (int m = 0; m < all; m++) {
            if (satisfies(m, elements, NO_AXIOM)) {
                count++;
            }
        }
        return count;
    }

    public int next(int after) {
        if (after < 0) {
            return leastModel(0, elements);
        }
        // Tested first because after + 1 wraps around for the greatest int.
        if (after >= interpretations(elements)) {
            return NO_MODEL;
        }
        return leastModel(after + 1, elements);
    }

    public int isModel(int m) {
        if (!isInterpretation(m)) {
            return -1;
        }
        return satisfies(m, elements, NO_AXIOM) ? 1 : 0;
    }

    public int shapes() {
        int all = interpretations(elements);
        int count = 0;
        for (int m = 0; m < all; m++) {
            // What has the shape of a model is a model, so that the least
            // number of each shape can stand for all of them.
            if (isLeastOfShape(m, elements) && satisfies(m, elements, NO_AXIOM)) {
                count++;
            }
        }
        return count;
    }

    public int sameShape(int m, int other) {
        if (!isInterpretation(m) || !isInterpretation(other)) {
            return -1;
        }
        return mapsTo(m, other, elements) > 0 ? 1 : 0;
    }

    public int symmetries(int m) {
        if (!isInterpretation(m)) {
            return -1;
        }
        return mapsTo(m, m, elements);
    }

    public int forced(int b) {
        if (b < 0 || b >= elements + elements * elements) {
            return -1;
        }
        int all = interpretations(elements);
        boolean zero = false;
        boolean one = false;
        for (int m = 0; m < all; m++) {
            if (satisfies(m, elements, NO_AXIOM)) {
                zero = zero || !hasDigit(m, b);
                one = one || hasDigit(m, b);
            }
        }
        if (zero && one) {
            return 2;
        }
        if (one) {
            return 1;
        }
        return zero ? 0 : 3;
    }

    public int holds(int m, int list) {
        if (formulas == 0 || !isInterpretation(m)) {
            return -1;
        }
        if (list < 0 || list >= ALL_LISTS) {
            return -1;
        }
        int domainLists = listsOfDomain(elements);
        if (!hasDigit(domainLists, list)) {
            return -1;
        }
        int truth = truthOf(formulas - 1, m, elements);
        return hasDigit(truth, list) ? 1 : 0;
    }

    public int lists(int m) {
        if (formulas == 0 || !isInterpretation(m)) {
            return -1;
        }
        int truth = truthOf(formulas - 1, m, elements);
        int count = 0;
        for (int list = 0; list < ALL_LISTS; list++) {
            if (hasDigit(truth, list)) {
                count++;
            }
        }
        return count;
    }

    public int follows() {
        if (formulas == 0) {
            return -1;
        }
        int all = interpretations(elements);
        for (int m = 0; m < all; m++) {
            if (satisfies(m, elements, NO_AXIOM) && !isValid(formulas - 1, m, elements)) {
                return 0;
            }
        }
        return 1;
    }

    public int agreeing() {
        if (formulas == 0) {
            return -1;
        }
        int all = interpretations(elements);
        int count = 0;
        for (int m = 0; m < all; m++) {
            if (satisfies(m, elements, NO_AXIOM) && isValid(formulas - 1, m, elements)) {
                count++;
            }
        }
        return count;
    }

    public int alike() {
        if (formulas < 2) {
            return -1;
        }
        int all = interpretations(elements);
        for (int m = 0; m < all; m++) {
            if (satisfies(m, elements, NO_AXIOM)) {
                int top = truthOf(formulas - 1, m, elements);
                int below = truthOf(formulas - 2, m, elements);
                if (top != below) {
                    return 0;
                }
            }
        }
        return 1;
    }

    public int independent(int i) {
        if (i < 0 || i >= axioms) {
            return -1;
        }
        int all = interpretations(elements);
        for (int m = 0; m < all; m++) {
            if (!isValid(FIRST_AXIOM + i, m, elements) && satisfies(m, elements, i)) {
                return 1;
            }
        }
        return 0;
    }

    public int smallest() {
        for (int d = 1; d <= MOST_ELEMENTS; d++) {
            if (leastModel(0, d) != NO_MODEL) {
                return d;
            }
        }
        return 0;
    }

    private static int interpretations(int d) {
        return 1 << (d + d * d);
    }

    private boolean isInterpretation(int m) {
        return m >= 0 && m < interpretations(elements);
    }

    private static boolean hasDigit(int number, int digit) {
        return (number >> digit & 1) == 1;
    }

    private static boolean isToken(int kind, int a) {
        if (kind < HAS || kind > MANY) {
            return false;
        }
        if (kind >= NOT && kind <= IFF) {
            return true;
        }
        int bound = 9;
        if (kind == HAS || kind == ALL || kind == SOME) {
            bound = 3;
        } else if (kind == MANY) {
            bound = 6;
        }
        return a >= 0 && a < bound;
    }

    /** How many formulas a token takes off the stack. */
    private static int takes(int kind) {
        if (kind <= REACH) {
            return 0;
        }
        return kind >= AND && kind <= IFF ? 2 : 1;
    }

    /** Puts the tokens of one slot behind those of another, where they have room. */
    private void append(int from, int to) {
        int source = from * MOST_TOKENS;
        int target = to * MOST_TOKENS + lengths[to];
        int length = lengths[from];
        for (int t = 0; t < length; t++) {
            kinds[target + t] = kinds[source + t];
            arguments[target + t] = arguments[source + t];
        }
        lengths[to] += length;
    }

    private void replace(int from, int to) {
        lengths[to] = 0;
        append(from, to);
    }

    /** The least model with d elements that is not below 'from', or NO_MODEL. */
    private int leastModel(int from, int d) {
        int all = interpretations(d);
        for (int m = from; m < all; m++) {
            if (satisfies(m, d, NO_AXIOM)) {
                return m;
            }
        }
        return NO_MODEL;
    }

    /** Whether all axioms but number 'except' are valid. */
    private boolean satisfies(int m, int d, int except) {
        int domainLists = listsOfDomain(d);
        for (int i = 0; i < axioms; i++) {
            if (i != except && truthOf(FIRST_AXIOM + i, m, d) != domainLists) {
                return false;
            }
        }
        return true;
    }

    private boolean isValid(int slot, int m, int d) {
        return truthOf(slot, m, d) == listsOfDomain(d);
    }

    private static int listsOfDomain(int d) {
        if (d == 1) {
            return LISTS_OF_ONE;
        }
        return d == 2 ? LISTS_OF_TWO : LISTS_OF_THREE;
    }

    /** The lists for which the formula in a slot holds. */
    private int truthOf(int slot, int m, int d) {
        int domainLists = listsOfDomain(d);
        int length = lengths[slot];
        int depth = 0;
        for (int t = 0; t < length; t++) {
            int kind = kinds[slot * MOST_TOKENS + t];
            int a = arguments[slot * MOST_TOKENS + t];
            int taken = takes(kind);
            depth -= taken;
            int result;
            if (taken == 0) {
                result = atom(kind, a, m, d);
            } else if (taken == 2) {
                result = joined(kind, work[depth], work[depth + 1]);
            } else if (kind == NOT) {
                result = ~work[depth];
            } else {
                int k = needed(kind, a, d);
                result = forAtLeast(k, a % 3, work[depth]);
            }
            // Lists outside the domain must not count for a later quantifier.
            work[depth] = result & domainLists;
            depth++;
        }
        return work[0];
    }

    private static int atom(int kind, int a, int m, int d) {
        // HAS speaks of one variable: as a pair of it with itself it needs
        // no way of its own.
        int v = kind == HAS ? a : a / 3;
        int w = kind == HAS ? a : a % 3;
        int pairs = SAME_PAIRS;
        if (kind == HAS) {
            pairs = ownersWithThemselves(m, d);
        } else if (kind != SAME) {
            pairs = related(m, d);
        }
        if (kind == REACH) {
            pairs = closed(pairs);
        }
        int result = 0;
        for (int e = 0; e < d; e++) {
            for (int f = 0; f < d; f++) {
                if (hasDigit(pairs, 3 * e + f)) {
                    result |= listsWith(v, e) & listsWith(w, f);
                }
            }
        }
        return result;
    }

    /** The pairs (e, e) of the elements that have P, as digits 3 * e + e. */
    private static int ownersWithThemselves(int m, int d) {
        int pairs = 0;
        for (int e = 0; e < d; e++) {
            pairs |= (m >> e & 1) << (3 * e + e);
        }
        return pairs;
    }

    /** The pairs (e, f) in R, as digits 3 * e + f whatever d is. */
    private static int related(int m, int d) {
        int pairs = 0;
        for (int e = 0; e < d; e++) {
            for (int f = 0; f < d; f++) {
                pairs |= (m >> (d + d * e + f) & 1) << (3 * e + f);
            }
        }
        return pairs;
    }

    /** The pairs that are reached by going along none, one or more of the pairs. */
    private static int closed(int pairs) {
        int result = pairs | SAME_PAIRS;
        for (int via = 0; via < MOST_ELEMENTS; via++) {
            int onward = result >> 3 * via & 7;
            for (int e = 0; e < MOST_ELEMENTS; e++) {
                if ((result >> (3 * e + via) & 1) == 1) {
                    result |= onward << 3 * e;
                }
            }
        }
        return result;
    }

    /** The lists in which variable v has the element e. */
    private static int listsWith(int v, int e) {
        if (v == 0) {
            return ZERO_AT_0 << e;
        }
        return v == 1 ? ZERO_AT_1 << 3 * e : ZERO_AT_2 << 9 * e;
    }

    private static int joined(int kind, int f, int g) {
        switch (kind) {
            case AND:
                return f & g;
            case OR:
                return f | g;
            case IMPLIES:
                return ~f | g;
            default:
                return ~(f ^ g);
        }
    }

    /** For how many elements a quantifier asks. */
    private static int needed(int kind, int a, int d) {
        if (kind == ALL) {
            return d;
        }
        return kind == SOME ? 1 : 2 + a / 3;
    }

    /** The lists for which f holds with at least k elements, 1 to 3, given to v. */
    private static int forAtLeast(int k, int v, int f) {
        int step = v == 0 ? 1 : v == 1 ? 3 : 9;
        int zeroAtV = listsWith(v, 0);
        int one = 0;
        int two = 0;
        int three = 0;
        for (int e = 0; e < MOST_ELEMENTS; e++) {
            int withE = f >> e * step & zeroAtV;
            three |= two & withE;
            two |= one & withE;
            one |= withE;
        }
        int enough = k == 1 ? one : k == 2 ? two : three;
        return enough | enough << step | enough << 2 * step;
    }

    /** How many one-to-one maps of the elements take m to other. */
    private static int mapsTo(int m, int other, int d) {
        int count = 0;
        for (int map = 0; map < ALL_LISTS; map++) {
            if (isOneToOne(map, d) && moved(m, map, d) == other) {
                count++;
            }
        }
        return count;
    }

    private static boolean isLeastOfShape(int m, int d) {
        for (int map = 0; map < ALL_LISTS; map++) {
            if (isOneToOne(map, d) && moved(m, map, d) < m) {
                return false;
            }
        }
        return true;
    }

    /**
     * A map is written as the list of the images of 0, 1 and 2. What is not in
     * the domain has to stay, so that each map of the domain is there once.
     */
    private static boolean isOneToOne(int map, int d) {
        int x = image(map, 0);
        int y = image(map, 1);
        int z = image(map, 2);
        if (x == y || x == z || y == z) {
            return false;
        }
        return (d > 1 || y == 1) && (d > 2 || z == 2);
    }

    private static int image(int map, int e) {
        if (e == 0) {
            return map % 3;
        }
        return e == 1 ? map / 3 % 3 : map / 9 % 3;
    }

    /** The interpretation that a map makes of m. */
    private static int moved(int m, int map, int d) {
        int result = 0;
        for (int e = 0; e < d; e++) {
            int toE = image(map, e);
            result |= (m >> e & 1) << toE;
            for (int f = 0; f < d; f++) {
                int toF = image(map, f);
                int inR = m >> (d + d * e + f) & 1;
                result |= inR << (d + d * toE + toF);
            }
        }
        return result;
    }
}
