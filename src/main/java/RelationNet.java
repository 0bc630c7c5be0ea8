public final class RelationNet {
    public static final int HAS_ZERO = 1;
    public static final int HAS_ONE = 2;
    public static final int MEET_CLOSED = 4;
    public static final int JOIN_CLOSED = 8;
    public static final int MAJORITY_CLOSED = 16;
    public static final int PARITY_CLOSED = 32;
    public static final int FLIP_CLOSED = 64;
    public static final int FREE = 2;

    private static final int LEAST_VARS = 2;
    private static final int MOST_VARS = 8;
    private static final int RELATIONS = 6;
    private static final int MOST_CONSTRAINTS = 20;
    private static final int TRIPLES = 8;
    private static final int LAST_TRIPLE = 7;
    private static final int FULL_TABLE = 255;
    private static final int ALL_TRAITS = 127;
    private static final int NO_POSITION = -1;

    private final int[] tables = new int[RELATIONS];
    private final int[] relationAt = new int[MOST_CONSTRAINTS];
    private final int[] xAt = new int[MOST_CONSTRAINTS];
    private final int[] yAt = new int[MOST_CONSTRAINTS];
    private final int[] zAt = new int[MOST_CONSTRAINTS];
    private final int[] assumed = new int[MOST_VARS];
    private final int variables;
    // Every number below this one stands for one way to give all variables a value.
    private final int assignments;
    private int count;

    public RelationNet(int vars) {
        variables = vars < LEAST_VARS ? LEAST_VARS : vars > MOST_VARS ? MOST_VARS : vars;
        assignments = 1 << variables;
        count = 0;
        for (int r = 0; r < RELATIONS; r++) {
            tables[r] = FULL_TABLE;
        }
        for (int v = 0; v < MOST_VARS; v++) {
            assumed[v] = FREE;
        }
    }

    public int define(int r, int table) {
        if (!isRelation(r)) {
            return -1;
        }
        if (table < 0 || table > FULL_TABLE) {
            return -2;
        }
        if (isNamed(r)) {
            return -3;
        }
        tables[r] = table;
        return triplesIn(table);
    }

    public int require(int r, int x, int y, int z) {
        if (!isRelation(r)) {
            return -1;
        }
        if (!areVariables(x, y, z)) {
            return -2;
        }
        if (count >= MOST_CONSTRAINTS) {
            return -3;
        }
        int position = count;
        relationAt[position] = r;
        xAt[position] = x;
        yAt[position] = y;
        zAt[position] = z;
        count = position + 1;
        return position;
    }

    public int retract(int i) {
        if (!isPosition(i)) {
            return -1;
        }
        int taken = relationAt[i];
        for (int k = i + 1; k < count; k++) {
            relationAt[k - 1] = relationAt[k];
            xAt[k - 1] = xAt[k];
            yAt[k - 1] = yAt[k];
            zAt[k - 1] = zAt[k];
        }
        count = count - 1;
        return taken;
    }

    public int assume(int v, int value) {
        if (!isVariable(v)) {
            return -1;
        }
        if (value < 0 || value > FREE) {
            return -2;
        }
        int before = assumed[v];
        assumed[v] = value;
        return before;
    }

    public int size() {
        return count;
    }

    public int table(int r) {
        return isRelation(r) ? tables[r] : -1;
    }

    public int traits(int r) {
        return isRelation(r) ? traitsOf(tables[r]) : -1;
    }

    public int netTraits() {
        int shared = ALL_TRAITS;
        for (int i = 0; i < count; i++) {
            int named = tables[relationAt[i]];
            shared &= traitsOf(named);
        }
        return shared;
    }

    public int satisfiable() {
        return firstSolutionAfter(-1) >= 0 ? 1 : 0;
    }

    public int solutions() {
        int found = 0;
        for (int number = 0; number < assignments; number++) {
            if (isSolution(number)) {
                found++;
            }
        }
        return found;
    }

    public int least() {
        return firstSolutionAfter(-1);
    }

    public int greatest() {
        for (int number = assignments - 1; number >= 0; number--) {
            if (isSolution(number)) {
                return number;
            }
        }
        return -1;
    }

    public int next(int after) {
        return firstSolutionAfter(after);
    }

    public int possible(int v, int value) {
        if (!isVariable(v)) {
            return -1;
        }
        if (value < 0 || value > 1) {
            return -2;
        }
        for (int number = 0; number < assignments; number++) {
            if (valueIn(number, v) == value && isSolution(number)) {
                return 1;
            }
        }
        return 0;
    }

    public int alwaysOne() {
        return onesInEverySolution(0);
    }

    public int alwaysZero() {
        return onesInEverySolution(assignments - 1);
    }

    public int pairs(int u, int v) {
        if (!isVariable(u) || !isVariable(v)) {
            return -1;
        }
        int seen = 0;
        for (int number = 0; number < assignments; number++) {
            if (isSolution(number)) {
                int pair = 2 * valueIn(number, u) + valueIn(number, v);
                seen |= 1 << pair;
            }
        }
        return seen;
    }

    public int entails(int r, int x, int y, int z) {
        if (!isRelation(r)) {
            return -1;
        }
        if (!areVariables(x, y, z)) {
            return -2;
        }
        for (int number = 0; number < assignments; number++) {
            int triple = tripleIn(number, x, y, z);
            if (!belongs(tables[r], triple) && isSolution(number)) {
                return 0;
            }
        }
        return 1;
    }

    public int redundant(int i) {
        if (!isPosition(i)) {
            return -1;
        }
        // Leaving a constraint out can only add solutions, so one that it alone forbids decides.
        for (int number = 0; number < assignments; number++) {
            if (!isMet(i, number) && keepsAssumed(number) && meetsAllBut(i, number)) {
                return 0;
            }
        }
        return 1;
    }

    private boolean isRelation(int r) {
        return r >= 0 && r < RELATIONS;
    }

    private boolean isVariable(int v) {
        return v >= 0 && v < variables;
    }

    private boolean areVariables(int x, int y, int z) {
        return isVariable(x) && isVariable(y) && isVariable(z);
    }

    private boolean isPosition(int i) {
        return i >= 0 && i < count;
    }

    private boolean isNamed(int r) {
        for (int i = 0; i < count; i++) {
            if (relationAt[i] == r) {
                return true;
            }
        }
        return false;
    }

    private int firstSolutionAfter(int after) {
        // Testing each number against after, not starting at after + 1, keeps the greatest int from wrapping.
        for (int number = 0; number < assignments; number++) {
            if (number > after && isSolution(number)) {
                return number;
            }
        }
        return -1;
    }

    // The bits of flip turn a variable's zeros into ones, so that one loop serves both questions.
    private int onesInEverySolution(int flip) {
        int shared = assignments - 1;
        boolean found = false;
        for (int number = 0; number < assignments; number++) {
            if (isSolution(number)) {
                shared &= number ^ flip;
                found = true;
            }
        }
        return found ? shared : -1;
    }

    private boolean isSolution(int number) {
        return keepsAssumed(number) && meetsAllBut(NO_POSITION, number);
    }

    private boolean keepsAssumed(int number) {
        for (int v = 0; v < variables; v++) {
            if (assumed[v] != FREE && assumed[v] != valueIn(number, v)) {
                return false;
            }
        }
        return true;
    }

    private boolean meetsAllBut(int leftOut, int number) {
        for (int i = 0; i < count; i++) {
            if (i != leftOut && !isMet(i, number)) {
                return false;
            }
        }
        return true;
    }

    private boolean isMet(int i, int number) {
        int triple = tripleIn(number, xAt[i], yAt[i], zAt[i]);
        return belongs(tables[relationAt[i]], triple);
    }

    // Spelled out without valueIn, since calls may go only six deep and this is the sixth.
    private static int tripleIn(int number, int x, int y, int z) {
        return 4 * ((number >> x) & 1) + 2 * ((number >> y) & 1) + ((number >> z) & 1);
    }

    private static int valueIn(int number, int v) {
        return (number >> v) & 1;
    }

    private static boolean belongs(int table, int triple) {
        return ((table >> triple) & 1) == 1;
    }

    private static int triplesIn(int table) {
        int found = 0;
        for (int t = 0; t < TRIPLES; t++) {
            if (belongs(table, t)) {
                found++;
            }
        }
        return found;
    }

    // The values of a triple are the bits of its number, so an operation on bits works place by place.
    private static int traitsOf(int table) {
        int sum = 0;
        if (belongs(table, 0)) {
            sum += HAS_ZERO;
        }
        if (belongs(table, LAST_TRIPLE)) {
            sum += HAS_ONE;
        }
        if (isMeetClosed(table)) {
            sum += MEET_CLOSED;
        }
        if (isJoinClosed(table)) {
            sum += JOIN_CLOSED;
        }
        if (isMajorityClosed(table)) {
            sum += MAJORITY_CLOSED;
        }
        if (isParityClosed(table)) {
            sum += PARITY_CLOSED;
        }
        if (isFlipClosed(table)) {
            sum += FLIP_CLOSED;
        }
        return sum;
    }

    private static boolean isMeetClosed(int table) {
        for (int s = 0; s < TRIPLES; s++) {
            for (int t = 0; t < TRIPLES; t++) {
                if (belongs(table, s) && belongs(table, t) && !belongs(table, s & t)) {
                    return false;
                }
            }
        }
        return true;
    }

    private static boolean isJoinClosed(int table) {
        for (int s = 0; s < TRIPLES; s++) {
            for (int t = 0; t < TRIPLES; t++) {
                if (belongs(table, s) && belongs(table, t) && !belongs(table, s | t)) {
                    return false;
                }
            }
        }
        return true;
    }

    private static boolean isMajorityClosed(int table) {
        for (int s = 0; s < TRIPLES; s++) {
            for (int t = 0; t < TRIPLES; t++) {
                for (int u = 0; u < TRIPLES; u++) {
                    int majority = (s & t) | (s & u) | (t & u);
                    if (hasAllThree(table, s, t, u) && !belongs(table, majority)) {
                        return false;
                    }
                }
            }
        }
        return true;
    }

    private static boolean isParityClosed(int table) {
        for (int s = 0; s < TRIPLES; s++) {
            for (int t = 0; t < TRIPLES; t++) {
                for (int u = 0; u < TRIPLES; u++) {
                    int parity = s ^ t ^ u;
                    if (hasAllThree(table, s, t, u) && !belongs(table, parity)) {
                        return false;
                    }
                }
            }
        }
        return true;
    }

    private static boolean hasAllThree(int table, int s, int t, int u) {
        return belongs(table, s) && belongs(table, t) && belongs(table, u);
    }

    private static boolean isFlipClosed(int table) {
        for (int t = 0; t < TRIPLES; t++) {
            if (belongs(table, t) && !belongs(table, t ^ LAST_TRIPLE)) {
                return false;
            }
        }
        return true;
    }
}
