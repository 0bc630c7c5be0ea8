/** Each promise of the document with its ordinary inputs, its edges and its refusals; the answers are worked out by hand. */
public final class PromisesTest {
    private static final int MIN = Integer.MIN_VALUE;
    private static final int MAX = Integer.MAX_VALUE;

    // Tables, by the triples (a, b, c) that belong to them.
    private static final int NONE = 0;
    private static final int ALL_ZERO = 1;
    private static final int ONLY_C = 2;
    private static final int ONLY_B = 4;
    private static final int ONLY_A = 16;
    private static final int ONE_IN_THREE = 22;
    private static final int NOT_ALL_ONE = 127;
    private static final int ALL_ONE = 128;
    private static final int ALL_EQUAL = 129;
    private static final int ODD = 150;
    private static final int A_IS_ONE = 240;
    private static final int NOT_ALL_ZERO = 254;
    private static final int EVERY = 255;

    private static final Checks checks = new Checks();
    private static String promise = "";

    public static void main(String[] args) {
        newObject();
        countOfVariables();
        define();
        defineRefusals();
        require();
        requireRefusals();
        retract();
        assume();
        size();
        table();
        traits();
        traitsOfEachKind();
        netTraits();
        satisfiable();
        solutions();
        leastAndGreatest();
        next();
        possible();
        alwaysOneAndZero();
        pairs();
        entails();
        redundant();
        refusedCallsChangeNothing();
        questionsChangeNothing();
        objectsAreApart();
        anyArgumentsInAnyState();
        checks.end();
    }

    private static void due(String call, int got, int want) {
        checks.due(promise + ": " + call, got, want);
    }

    /** A net of three variables with one constraint (0, 0, 1, 2), so that its solutions are the triples of the table. */
    private static RelationNet netOf(int table) {
        RelationNet net = new RelationNet(3);
        net.define(0, table);
        net.require(0, 0, 1, 2);
        return net;
    }

    private static void newObject() {
        promise = "1 A new object";
        RelationNet net = new RelationNet(4);
        due("size()", net.size(), 0);
        for (int r = 0; r < 6; r++) {
            due("table(" + r + ")", net.table(r), EVERY);
            due("traits(" + r + ")", net.traits(r), 127);
        }
        due("solutions()", net.solutions(), 16);
        due("alwaysOne()", net.alwaysOne(), 0);
        due("alwaysZero()", net.alwaysZero(), 0);
        for (int v = 0; v < 4; v++) {
            due("assume(" + v + ", 2)", net.assume(v, RelationNet.FREE), 2);
        }
    }

    private static void countOfVariables() {
        promise = "1 vars";
        int[] given = {MIN, -1, 0, 1, 2, 3, 4, 5, 6, 7, 8, 9, 100, MAX};
        int[] kept = {2, 2, 2, 2, 2, 3, 4, 5, 6, 7, 8, 8, 8, 8};
        for (int k = 0; k < given.length; k++) {
            RelationNet net = new RelationNet(given[k]);
            String vars = "vars " + given[k] + ", ";
            int n = kept[k];
            due(vars + "solutions()", net.solutions(), 1 << n);
            due(vars + "greatest()", net.greatest(), (1 << n) - 1);
            due(vars + "possible(n-1, 1)", net.possible(n - 1, 1), 1);
            due(vars + "possible(n, 1)", net.possible(n, 1), -1);
            due(vars + "pairs(n-1, 0)", net.pairs(n - 1, 0), 15);
            due(vars + "pairs(0, n)", net.pairs(0, n), -1);
            due(vars + "assume(n, 0)", net.assume(n, 0), -1);
            due(vars + "assume(n-1, 1)", net.assume(n - 1, 1), 2);
            due(vars + "alwaysOne()", net.alwaysOne(), 1 << (n - 1));
            due(vars + "require(0, n-1, n-1, n-1)", net.require(0, n - 1, n - 1, n - 1), 0);
            due(vars + "require(0, 0, 0, n)", net.require(0, 0, 0, n), -2);
        }
    }

    private static void define() {
        promise = "2 define";
        RelationNet net = new RelationNet(3);
        int[] tables = {EVERY, NONE, ALL_ZERO, ONE_IN_THREE, NOT_ALL_ONE, ODD, ALL_EQUAL, A_IS_ONE};
        int[] triples = {8, 0, 1, 3, 7, 4, 2, 4};
        for (int k = 0; k < tables.length; k++) {
            int r = k % 6;
            due("define(" + r + ", " + tables[k] + ")", net.define(r, tables[k]), triples[k]);
            due("table(" + r + ")", net.table(r), tables[k]);
        }
        due("table(2), defined before", net.table(2), ALL_ZERO);
        due("table(5), defined before", net.table(5), ODD);
    }

    private static void defineRefusals() {
        promise = "2 define refusals";
        RelationNet net = new RelationNet(3);
        net.define(2, ODD);
        net.require(2, 0, 1, 2);
        due("define(-1, 256)", net.define(-1, 256), -1);
        due("define(6, -1)", net.define(6, -1), -1);
        due("define(6, 0)", net.define(6, 0), -1);
        due("define(MIN, 0)", net.define(MIN, 0), -1);
        due("define(MAX, 0)", net.define(MAX, 0), -1);
        due("define(2, 256)", net.define(2, 256), -2);
        due("define(2, -1)", net.define(2, -1), -2);
        due("define(0, 256)", net.define(0, 256), -2);
        due("define(0, MIN)", net.define(0, MIN), -2);
        due("define(0, MAX)", net.define(0, MAX), -2);
        due("define(2, 0)", net.define(2, 0), -3);
        due("define(2, 150), its own table", net.define(2, ODD), -3);
        due("table(0)", net.table(0), EVERY);
        due("table(2)", net.table(2), ODD);
        due("solutions()", net.solutions(), 4);
        due("define(1, 0), not named", net.define(1, 0), 0);
        net.require(0, 0, 0, 0);
        net.require(2, 0, 0, 1);
        due("define(0, 1), named in the middle", net.define(0, 1), -3);
        net.retract(0);
        due("define(2, 1), still named", net.define(2, 1), -3);
        net.retract(1);
        due("define(2, 1), no longer named", net.define(2, 1), 1);
        due("define(0, 1), still named", net.define(0, 1), -3);
    }

    private static void require() {
        promise = "3 require";
        int[] tables = {ONLY_A, ONLY_B, ONLY_C};
        for (int p = 0; p < 3; p++) {
            RelationNet net = new RelationNet(5);
            net.define(3, tables[p]);
            due("require(3, 4, 0, 2)", net.require(3, 4, 0, 2), 0);
            due("size()", net.size(), 1);
            due("alwaysOne()", net.alwaysOne(), new int[] {16, 1, 4}[p]);
            due("alwaysZero()", net.alwaysZero(), new int[] {5, 20, 17}[p]);
            due("solutions()", net.solutions(), 4);
        }
        RelationNet same = new RelationNet(2);
        same.define(0, NOT_ALL_ONE);
        due("require(0, 1, 1, 1)", same.require(0, 1, 1, 1), 0);
        due("greatest()", same.greatest(), 1);
        same.define(1, ONLY_C);
        due("require(1, 1, 1, 0)", same.require(1, 1, 1, 0), 1);
        due("least()", same.least(), 1);
        due("require(1, 1, 1, 0) once more", same.require(1, 1, 1, 0), 2);
    }

    private static void requireRefusals() {
        promise = "3 require refusals";
        RelationNet net = new RelationNet(3);
        due("require(-1, 9, 0, 0)", net.require(-1, 9, 0, 0), -1);
        due("require(6, 0, 0, 0)", net.require(6, 0, 0, 0), -1);
        due("require(MIN, 0, 0, 0)", net.require(MIN, 0, 0, 0), -1);
        due("require(MAX, 0, 0, 0)", net.require(MAX, 0, 0, 0), -1);
        int[] off = {MIN, -1, 3, 8, MAX};
        for (int v : off) {
            due("require(0, " + v + ", 0, 0)", net.require(0, v, 0, 0), -2);
            due("require(0, 0, " + v + ", 0)", net.require(0, 0, v, 0), -2);
            due("require(0, 0, 0, " + v + ")", net.require(0, 0, 0, v), -2);
        }
        due("size()", net.size(), 0);
        for (int k = 0; k < 20; k++) {
            due("require of position " + k, net.require(k % 6, k % 3, 0, 2), k);
        }
        due("size() of a full list", net.size(), 20);
        due("require(0, 0, 1, 2), list full", net.require(0, 0, 1, 2), -3);
        due("require(6, 0, 1, 2), list full", net.require(6, 0, 1, 2), -1);
        due("require(0, 0, 1, 3), list full", net.require(0, 0, 1, 3), -2);
        due("size() after refusals", net.size(), 20);
        due("retract(19)", net.retract(19), 1);
        due("require(5, 0, 1, 2), room again", net.require(5, 0, 1, 2), 19);
        due("require(5, 0, 1, 2), full again", net.require(5, 0, 1, 2), -3);
        due("retract(19), the new one", net.retract(19), 5);
    }

    private static void retract() {
        promise = "4 retract";
        RelationNet net = new RelationNet(4);
        due("retract(0), empty list", net.retract(0), -1);
        net.define(0, ALL_ONE);
        net.define(1, ALL_ZERO);
        net.define(2, ALL_EQUAL);
        net.require(0, 0, 0, 0);
        net.require(1, 1, 1, 1);
        net.require(2, 2, 2, 3);
        net.require(0, 3, 3, 3);
        due("least()", net.least(), 13);
        due("retract(-1)", net.retract(-1), -1);
        due("retract(4)", net.retract(4), -1);
        due("retract(MIN)", net.retract(MIN), -1);
        due("retract(MAX)", net.retract(MAX), -1);
        due("size() after refusals", net.size(), 4);
        due("retract(1)", net.retract(1), 1);
        due("size()", net.size(), 3);
        due("alwaysOne()", net.alwaysOne(), 13);
        due("alwaysZero()", net.alwaysZero(), 0);
        due("retract(3), now behind the end", net.retract(3), -1);
        due("retract(1), moved down", net.retract(1), 2);
        due("pairs(2, 3)", net.pairs(2, 3), 10);
        due("retract(1), moved down twice", net.retract(1), 0);
        due("alwaysOne() with the first alone", net.alwaysOne(), 1);
        due("retract(0)", net.retract(0), 0);
        due("solutions() without constraints", net.solutions(), 16);
        due("retract(0), empty again", net.retract(0), -1);
        retractMovesEachPlace();
        retractFromFullList();
    }

    private static void retractMovesEachPlace() {
        int[] tables = {ONLY_A, ONLY_B, ONLY_C};
        int[] numbers = {16, 4, 2};
        for (int p = 0; p < 3; p++) {
            RelationNet net = new RelationNet(5);
            net.define(1, tables[p]);
            net.require(0, 0, 3, 0);
            net.require(1, 4, 2, 1);
            net.retract(0);
            due("least() after a move, place " + p, net.least(), numbers[p]);
            due("greatest() after a move, place " + p, net.greatest(), numbers[p] + 9);
        }
    }

    private static void retractFromFullList() {
        RelationNet net = new RelationNet(8);
        for (int k = 0; k < 20; k++) {
            net.require(k % 6, 0, 0, 0);
        }
        due("retract(20), list full", net.retract(20), -1);
        for (int k = 0; k < 20; k++) {
            due("retract(0), call " + k, net.retract(0), k % 6);
        }
        due("size()", net.size(), 0);
    }

    private static void assume() {
        promise = "5 assume";
        RelationNet net = new RelationNet(3);
        due("assume(1, 1)", net.assume(1, 1), 2);
        due("least()", net.least(), 2);
        due("solutions()", net.solutions(), 4);
        due("assume(1, 0)", net.assume(1, 0), 1);
        due("greatest()", net.greatest(), 5);
        due("assume(2, 0)", net.assume(2, 0), 2);
        due("solutions()", net.solutions(), 2);
        due("assume(1, FREE)", net.assume(1, RelationNet.FREE), 0);
        due("assume(1, FREE) again", net.assume(1, RelationNet.FREE), 2);
        due("solutions()", net.solutions(), 4);
        due("assume(-1, 3)", net.assume(-1, 3), -1);
        due("assume(3, 0)", net.assume(3, 0), -1);
        due("assume(3, -1)", net.assume(3, -1), -1);
        due("assume(MIN, 0)", net.assume(MIN, 0), -1);
        due("assume(MAX, 0)", net.assume(MAX, 0), -1);
        due("assume(0, -1)", net.assume(0, -1), -2);
        due("assume(0, 3)", net.assume(0, 3), -2);
        due("assume(0, MIN)", net.assume(0, MIN), -2);
        due("assume(0, MAX)", net.assume(0, MAX), -2);
        due("assume(2, 3), assumed 0", net.assume(2, 3), -2);
        due("solutions() after refusals", net.solutions(), 4);
        due("assume(0, 1)", net.assume(0, 1), 2);
        due("assume(2, 0)", net.assume(2, 0), 0);
    }

    private static void size() {
        promise = "6 size";
        RelationNet net = new RelationNet(2);
        due("size()", net.size(), 0);
        net.require(0, 0, 0, 0);
        net.require(0, 0, 0, 0);
        due("size() with the same constraint twice", net.size(), 2);
        net.define(1, 0);
        net.assume(0, 1);
        due("size() after define and assume", net.size(), 2);
        net.retract(0);
        due("size() after retract", net.size(), 1);
    }

    private static void table() {
        promise = "7 table";
        RelationNet net = new RelationNet(2);
        net.define(0, NONE);
        net.define(5, ODD);
        due("table(0)", net.table(0), NONE);
        due("table(4)", net.table(4), EVERY);
        due("table(5)", net.table(5), ODD);
        due("table(-1)", net.table(-1), -1);
        due("table(6)", net.table(6), -1);
        due("table(MIN)", net.table(MIN), -1);
        due("table(MAX)", net.table(MAX), -1);
    }

    private static void traits() {
        promise = "8 traits";
        RelationNet net = new RelationNet(2);
        due("traits(-1)", net.traits(-1), -1);
        due("traits(6)", net.traits(6), -1);
        due("traits(MIN)", net.traits(MIN), -1);
        due("traits(MAX)", net.traits(MAX), -1);
        net.define(3, NONE);
        due("traits of the empty relation", net.traits(3), 4 + 8 + 16 + 32 + 64);
        due("traits of the full relation", net.traits(5), 127);
        int[] tables = {ALL_ZERO, ALL_ONE, ALL_EQUAL, ONE_IN_THREE, NOT_ALL_ONE, NOT_ALL_ZERO, ODD, ONLY_B, A_IS_ONE, 126};
        int[] sums = {1 + 4 + 8 + 16 + 32, 2 + 4 + 8 + 16 + 32, 127, 0, 1 + 4, 2 + 8, 2 + 32, 4 + 8 + 16 + 32,
            2 + 4 + 8 + 16 + 32, 64};
        for (int k = 0; k < tables.length; k++) {
            net.define(1, tables[k]);
            due("traits of table " + tables[k], net.traits(1), sums[k]);
        }
    }

    /** For each trait, a relation that one triple more or less moves over its edge. */
    private static void traitsOfEachKind() {
        promise = "8 each trait";
        // (0,1,1) and (1,0,1) meet in (0,0,1), join in (1,1,1).
        hasTrait(8 + 32, RelationNet.MEET_CLOSED, false);
        hasTrait(8 + 32 + 2, RelationNet.MEET_CLOSED, true);
        hasTrait(8 + 32, RelationNet.JOIN_CLOSED, false);
        hasTrait(8 + 32 + 128, RelationNet.JOIN_CLOSED, true);
        // (0,0,1), (0,1,0) and (1,0,0): at each place two have 0; the sums are odd at each place.
        hasTrait(ONE_IN_THREE, RelationNet.MAJORITY_CLOSED, false);
        hasTrait(ONE_IN_THREE + 1, RelationNet.MAJORITY_CLOSED, true);
        hasTrait(ONE_IN_THREE, RelationNet.PARITY_CLOSED, false);
        hasTrait(ONE_IN_THREE + 128, RelationNet.PARITY_CLOSED, true);
        // (0,1,1), (1,0,1) and (1,1,0): at each place two have 1; the sums are even at each place.
        hasTrait(8 + 32 + 64, RelationNet.MAJORITY_CLOSED, false);
        hasTrait(8 + 32 + 64 + 128, RelationNet.MAJORITY_CLOSED, true);
        hasTrait(8 + 32 + 64, RelationNet.PARITY_CLOSED, false);
        hasTrait(8 + 32 + 64 + 1, RelationNet.PARITY_CLOSED, true);
        // (0,1,0) flips to (1,0,1).
        hasTrait(ONLY_B, RelationNet.FLIP_CLOSED, false);
        hasTrait(ONLY_B + 32, RelationNet.FLIP_CLOSED, true);
        hasTrait(NOT_ALL_ZERO, RelationNet.HAS_ZERO, false);
        hasTrait(ALL_ZERO, RelationNet.HAS_ZERO, true);
        hasTrait(NOT_ALL_ONE, RelationNet.HAS_ONE, false);
        hasTrait(ALL_ONE, RelationNet.HAS_ONE, true);
    }

    private static void hasTrait(int table, int trait, boolean has) {
        RelationNet net = new RelationNet(2);
        net.define(4, table);
        due("trait " + trait + " of table " + table, net.traits(4) & trait, has ? trait : 0);
    }

    private static void netTraits() {
        promise = "9 netTraits";
        RelationNet net = new RelationNet(4);
        due("netTraits(), empty list", net.netTraits(), 127);
        net.define(0, NOT_ALL_ONE);
        net.define(1, ALL_ZERO);
        net.define(2, ONE_IN_THREE);
        net.define(3, NONE);
        due("netTraits(), relations that no constraint names", net.netTraits(), 127);
        net.require(1, 0, 1, 2);
        due("netTraits() of table 1", net.netTraits(), 1 + 4 + 8 + 16 + 32);
        net.assume(0, 1);
        due("netTraits() with an assumed value against it", net.netTraits(), 1 + 4 + 8 + 16 + 32);
        net.require(0, 3, 3, 3);
        due("netTraits() of tables 1 and 127", net.netTraits(), 1 + 4);
        net.require(3, 0, 0, 0);
        due("netTraits() with the empty relation too", net.netTraits(), 4);
        net.require(2, 0, 1, 3);
        due("netTraits() with table 22 too", net.netTraits(), 0);
        net.retract(3);
        net.retract(1);
        due("netTraits() of tables 1 and 0", net.netTraits(), 4 + 8 + 16 + 32);
        net.retract(0);
        due("netTraits() of table 0", net.netTraits(), 124);
        net.retract(0);
        due("netTraits(), empty again", net.netTraits(), 127);
    }

    private static void satisfiable() {
        promise = "10 satisfiable";
        due("satisfiable(), empty list", new RelationNet(2).satisfiable(), 1);
        due("satisfiable() of the empty relation", netOf(NONE).satisfiable(), 0);
        due("satisfiable() with solution 0 alone", netOf(ALL_ZERO).satisfiable(), 1);
        due("satisfiable() with solution 7 alone", netOf(ALL_ONE).satisfiable(), 1);
        RelationNet net = netOf(ALL_ONE);
        net.assume(1, 0);
        due("satisfiable() against an assumed value", net.satisfiable(), 0);
        net.assume(1, 1);
        due("satisfiable() with an assumed value", net.satisfiable(), 1);
        net.define(1, ALL_ZERO);
        net.require(1, 2, 2, 2);
        due("satisfiable() with two against each other", net.satisfiable(), 0);
        net.retract(0);
        due("satisfiable() after retract", net.satisfiable(), 1);
    }

    private static void solutions() {
        promise = "11 solutions";
        due("solutions(), empty list", new RelationNet(8).solutions(), 256);
        due("solutions() of the empty relation", netOf(NONE).solutions(), 0);
        due("solutions() of table 22", netOf(ONE_IN_THREE).solutions(), 3);
        due("solutions() of table 254", netOf(NOT_ALL_ZERO).solutions(), 7);
        RelationNet net = new RelationNet(8);
        net.define(1, ODD);
        net.require(1, 0, 1, 2);
        due("solutions() with one parity", net.solutions(), 128);
        net.require(1, 3, 4, 5);
        due("solutions() with two parities", net.solutions(), 64);
        net.require(1, 0, 3, 6);
        due("solutions() with three parities", net.solutions(), 32);
        net.assume(7, 0);
        due("solutions() with an assumed value", net.solutions(), 16);
        net.require(1, 0, 1, 2);
        due("solutions() with one said twice", net.solutions(), 16);
        fullList();
    }

    private static void fullList() {
        RelationNet net = new RelationNet(8);
        net.define(1, NONE);
        for (int k = 0; k < 19; k++) {
            net.require(0, 0, 1, 2);
        }
        due("solutions() with 19 that forbid nothing", net.solutions(), 256);
        net.require(1, 0, 0, 0);
        due("solutions() with a 20th that forbids all", net.solutions(), 0);
    }

    private static void leastAndGreatest() {
        promise = "12 least, 13 greatest";
        // The triple (1,0,0) gives variable 0 the value 1, so its solution has the number 1.
        int[] tables = {NONE, ONLY_A, ONLY_B, ONLY_C, ALL_ZERO, ALL_ONE, ONE_IN_THREE, NOT_ALL_ZERO, EVERY};
        int[] least = {-1, 1, 2, 4, 0, 7, 1, 1, 0};
        int[] greatest = {-1, 1, 2, 4, 0, 7, 4, 7, 7};
        for (int k = 0; k < tables.length; k++) {
            RelationNet net = netOf(tables[k]);
            due("least() of table " + tables[k], net.least(), least[k]);
            due("greatest() of table " + tables[k], net.greatest(), greatest[k]);
        }
        RelationNet net = new RelationNet(8);
        due("greatest() of eight variables", net.greatest(), 255);
        net.assume(7, 1);
        net.assume(4, 0);
        due("least() with 7 one", net.least(), 128);
        due("greatest() with 4 zero", net.greatest(), 239);
    }

    private static void next() {
        promise = "14 next";
        RelationNet net = netOf(ONE_IN_THREE);
        int[] after = {MIN, -2, -1, 0, 1, 2, 3, 4, 5, 7, 8, 255, 256, MAX - 1, MAX};
        int[] due = {1, 1, 1, 1, 2, 4, 4, -1, -1, -1, -1, -1, -1, -1, -1};
        for (int k = 0; k < after.length; k++) {
            due("next(" + after[k] + ")", net.next(after[k]), due[k]);
        }
        RelationNet free = new RelationNet(8);
        due("next(-1) of all", free.next(-1), 0);
        due("next(MIN) of all", free.next(MIN), 0);
        due("next(0) of all", free.next(0), 1);
        due("next(254) of all", free.next(254), 255);
        due("next(255) of all", free.next(255), -1);
        due("next(MAX) of all", free.next(MAX), -1);
        RelationNet none = netOf(NONE);
        due("next(-1), no solution", none.next(-1), -1);
        due("next(MIN), no solution", none.next(MIN), -1);
        due("next(MAX), no solution", none.next(MAX), -1);
    }

    private static void possible() {
        promise = "15 possible";
        RelationNet net = netOf(ONLY_B + ALL_ONE);
        due("possible(0, 0)", net.possible(0, 0), 1);
        due("possible(0, 1)", net.possible(0, 1), 1);
        due("possible(1, 0)", net.possible(1, 0), 0);
        due("possible(1, 1)", net.possible(1, 1), 1);
        net.assume(2, 0);
        due("possible(0, 1) with 2 zero", net.possible(0, 1), 0);
        due("possible(2, 1) with 2 zero", net.possible(2, 1), 0);
        due("possible(2, 0) with 2 zero", net.possible(2, 0), 1);
        net.assume(1, 0);
        due("possible(0, 0), no solution", net.possible(0, 0), 0);
        due("possible(1, 0), no solution", net.possible(1, 0), 0);
        due("possible(1, 0), solution 0 alone", netOf(ALL_ZERO).possible(1, 0), 1);
        due("possible(1, 1), solution 7 alone", netOf(ALL_ONE).possible(1, 1), 1);
        due("possible(-1, 2)", net.possible(-1, 2), -1);
        due("possible(3, 0)", net.possible(3, 0), -1);
        due("possible(3, -1)", net.possible(3, -1), -1);
        due("possible(MIN, 0)", net.possible(MIN, 0), -1);
        due("possible(MAX, 0)", net.possible(MAX, 0), -1);
        due("possible(0, 2)", net.possible(0, 2), -2);
        due("possible(0, -1)", net.possible(0, -1), -2);
        due("possible(0, MIN)", net.possible(0, MIN), -2);
        due("possible(0, MAX)", net.possible(0, MAX), -2);
    }

    private static void alwaysOneAndZero() {
        promise = "16 alwaysOne, 17 alwaysZero";
        int[] tables = {NONE, ONLY_A, ONLY_B, ONLY_C, ALL_ZERO, ALL_ONE, ONE_IN_THREE, A_IS_ONE, ONLY_A + ONLY_B};
        int[] ones = {-1, 1, 2, 4, 0, 7, 0, 1, 0};
        int[] zeros = {-1, 6, 5, 3, 7, 0, 0, 0, 4};
        for (int k = 0; k < tables.length; k++) {
            RelationNet net = netOf(tables[k]);
            due("alwaysOne() of table " + tables[k], net.alwaysOne(), ones[k]);
            due("alwaysZero() of table " + tables[k], net.alwaysZero(), zeros[k]);
        }
        RelationNet net = new RelationNet(8);
        net.assume(7, 1);
        net.assume(6, 0);
        due("alwaysOne() by assumed values", net.alwaysOne(), 128);
        due("alwaysZero() by assumed values", net.alwaysZero(), 64);
        net.define(0, NOT_ALL_ONE);
        net.require(0, 7, 7, 5);
        due("alwaysOne() by both", net.alwaysOne(), 128);
        due("alwaysZero() by both", net.alwaysZero(), 96);
    }

    private static void pairs() {
        promise = "18 pairs";
        due("pairs(0, 1), empty list", new RelationNet(2).pairs(0, 1), 15);
        due("pairs(1, 1), empty list", new RelationNet(2).pairs(1, 1), 9);
        RelationNet net = netOf(ONLY_A);
        due("pairs(0, 1) of (1,0,0)", net.pairs(0, 1), 4);
        due("pairs(1, 0) of (1,0,0)", net.pairs(1, 0), 2);
        due("pairs(1, 2) of (1,0,0)", net.pairs(1, 2), 1);
        due("pairs(0, 0) of (1,0,0)", net.pairs(0, 0), 8);
        due("pairs(2, 2) of (1,0,0)", net.pairs(2, 2), 1);
        due("pairs(0, 2) of all equal", netOf(ALL_EQUAL).pairs(0, 2), 9);
        due("pairs(2, 1) of one in three", netOf(ONE_IN_THREE).pairs(2, 1), 7);
        due("pairs(2, 1) of none", netOf(NONE).pairs(2, 1), 0);
        net.assume(0, 0);
        due("pairs(0, 1) against an assumed value", net.pairs(0, 1), 0);
        int[] off = {MIN, -1, 3, 8, MAX};
        for (int v : off) {
            due("pairs(" + v + ", 0)", net.pairs(v, 0), -1);
            due("pairs(0, " + v + ")", net.pairs(0, v), -1);
            due("pairs(" + v + ", " + v + ")", net.pairs(v, v), -1);
        }
    }

    private static void entails() {
        promise = "19 entails";
        RelationNet net = netOf(ONE_IN_THREE);
        net.define(1, NOT_ALL_ONE);
        net.define(2, ONLY_A);
        net.define(3, NONE);
        net.define(4, ODD);
        due("entails(0, 0, 1, 2), the constraint itself", net.entails(0, 0, 1, 2), 1);
        due("entails(0, 2, 0, 1), turned", net.entails(0, 2, 0, 1), 1);
        due("entails(0, 0, 0, 1)", net.entails(0, 0, 0, 1), 0);
        due("entails(1, 0, 0, 1), not named", net.entails(1, 0, 0, 1), 1);
        due("entails(1, 0, 0, 0)", net.entails(1, 0, 0, 0), 0);
        due("entails(4, 1, 2, 0)", net.entails(4, 1, 2, 0), 1);
        due("entails(2, 0, 1, 2)", net.entails(2, 0, 1, 2), 0);
        due("entails(3, 0, 1, 2), empty relation", net.entails(3, 0, 1, 2), 0);
        due("entails(5, 0, 1, 2), full relation", net.entails(5, 0, 1, 2), 1);
        net.assume(1, 1);
        due("entails(2, 1, 0, 2) with 1 one", net.entails(2, 1, 0, 2), 1);
        due("entails(2, 0, 1, 2) with 1 one", net.entails(2, 0, 1, 2), 0);
        due("entails(2, 0, 2, 1) with 1 one", net.entails(2, 0, 2, 1), 0);
        due("size()", net.size(), 1);
        net.assume(0, 1);
        due("entails(3, 0, 1, 2), no solution", net.entails(3, 0, 1, 2), 1);
        due("entails(1, 0, 1, 2), broken by solution 7 alone", entailsAmongAll(NOT_ALL_ONE), 0);
        due("entails(1, 0, 1, 2), broken by solution 0 alone", entailsAmongAll(NOT_ALL_ZERO), 0);
        entailsRefusals(net);
        RelationNet full = new RelationNet(2);
        for (int k = 0; k < 20; k++) {
            full.require(0, 0, 0, 0);
        }
        due("entails(0, 1, 1, 1), list full", full.entails(0, 1, 1, 1), 1);
    }

    private static int entailsAmongAll(int table) {
        RelationNet net = new RelationNet(3);
        net.define(1, table);
        return net.entails(1, 0, 1, 2);
    }

    private static void entailsRefusals(RelationNet net) {
        due("entails(-1, 3, 0, 0)", net.entails(-1, 3, 0, 0), -1);
        due("entails(6, 0, 0, 0)", net.entails(6, 0, 0, 0), -1);
        due("entails(MIN, 0, 0, 0)", net.entails(MIN, 0, 0, 0), -1);
        due("entails(MAX, 0, 0, 0)", net.entails(MAX, 0, 0, 0), -1);
        int[] off = {MIN, -1, 3, 8, MAX};
        for (int v : off) {
            due("entails(5, " + v + ", 0, 0)", net.entails(5, v, 0, 0), -2);
            due("entails(5, 0, " + v + ", 0)", net.entails(5, 0, v, 0), -2);
            due("entails(5, 0, 0, " + v + ")", net.entails(5, 0, 0, v), -2);
        }
    }

    private static void redundant() {
        promise = "20 redundant";
        RelationNet net = new RelationNet(3);
        due("redundant(0), empty list", net.redundant(0), -1);
        net.define(0, ONE_IN_THREE);
        net.define(1, NOT_ALL_ONE);
        net.define(2, ALL_ZERO);
        net.require(0, 0, 1, 2);
        net.require(1, 0, 1, 2);
        due("redundant(0), the narrow one", net.redundant(0), 0);
        due("redundant(1), the wide one", net.redundant(1), 1);
        due("redundant(-1)", net.redundant(-1), -1);
        due("redundant(2)", net.redundant(2), -1);
        due("redundant(MIN)", net.redundant(MIN), -1);
        due("redundant(MAX)", net.redundant(MAX), -1);
        net.require(0, 2, 1, 0);
        due("redundant(0), said twice", net.redundant(0), 1);
        due("redundant(2), said twice", net.redundant(2), 1);
        net.retract(2);
        net.require(2, 0, 1, 2);
        due("redundant(0), no solution with it", net.redundant(0), 0);
        due("redundant(1), no solution with or without it", net.redundant(1), 1);
        due("redundant(2), no solution with it", net.redundant(2), 0);
        net.require(0, 1, 2, 0);
        due("redundant(0), no solution even without it", net.redundant(0), 1);
        due("redundant(2), the one that forbids all", net.redundant(2), 0);
        due("size()", net.size(), 4);
        RelationNet assumed = netOf(NOT_ALL_ZERO);
        due("redundant(0) alone", assumed.redundant(0), 0);
        assumed.assume(1, 1);
        due("redundant(0) with an assumed value that meets it", assumed.redundant(0), 1);
        assumed.assume(1, 0);
        due("redundant(0) with an assumed value that doesn't", assumed.redundant(0), 0);
        redundantInFullList();
    }

    private static void redundantInFullList() {
        RelationNet net = new RelationNet(8);
        net.define(1, A_IS_ONE);
        for (int k = 0; k < 19; k++) {
            net.require(0, 0, 1, 2);
        }
        net.require(1, 7, 7, 7);
        due("redundant(18), list full", net.redundant(18), 1);
        due("redundant(19), list full", net.redundant(19), 0);
        due("redundant(20), list full", net.redundant(20), -1);
    }

    private static RelationNet someNet() {
        RelationNet net = new RelationNet(4);
        net.define(0, ONE_IN_THREE);
        net.define(1, NOT_ALL_ONE);
        net.define(2, ODD);
        net.require(0, 0, 1, 2);
        net.require(1, 1, 2, 3);
        net.assume(3, 1);
        return net;
    }

    /** Whether the net still stands as someNet() made it; asking this takes its list apart. */
    private static void isSomeNet(RelationNet net) {
        due("size()", net.size(), 2);
        int[] tables = {ONE_IN_THREE, NOT_ALL_ONE, ODD, EVERY, EVERY, EVERY};
        for (int r = 0; r < 6; r++) {
            due("table(" + r + ")", net.table(r), tables[r]);
        }
        due("solutions()", net.solutions(), 3);
        due("least()", net.least(), 9);
        due("next(9)", net.next(9), 10);
        due("greatest()", net.greatest(), 12);
        due("netTraits()", net.netTraits(), 0);
        due("assume(3, 1)", net.assume(3, 1), 1);
        for (int v = 0; v < 3; v++) {
            due("assume(" + v + ", 2)", net.assume(v, 2), 2);
        }
        due("retract(0)", net.retract(0), 0);
        due("retract(0)", net.retract(0), 1);
    }

    private static void refusedCallsChangeNothing() {
        promise = "refused calls change nothing";
        RelationNet net = someNet();
        net.define(-1, 0);
        net.define(6, 0);
        net.define(3, 256);
        net.define(3, -1);
        net.define(0, 0);
        net.define(1, 255);
        net.require(6, 0, 0, 0);
        net.require(2, 4, 0, 0);
        net.require(2, 0, -1, 0);
        net.require(2, 0, 0, 4);
        net.retract(2);
        net.retract(-1);
        net.assume(4, 0);
        net.assume(-1, 0);
        net.assume(3, 3);
        net.assume(0, -1);
        net.possible(4, 0);
        net.possible(0, 2);
        net.pairs(0, 4);
        net.entails(6, 0, 0, 0);
        net.entails(0, 4, 0, 0);
        net.redundant(2);
        isSomeNet(net);
    }

    private static void questionsChangeNothing() {
        promise = "questions change nothing";
        RelationNet net = someNet();
        for (int k = 0; k < 3; k++) {
            net.size();
            net.table(k);
            net.traits(k);
            net.netTraits();
            net.satisfiable();
            net.solutions();
            net.least();
            net.greatest();
            net.next(k);
            net.possible(k, 0);
            net.possible(3, 0);
            net.alwaysOne();
            net.alwaysZero();
            net.pairs(k, 3);
            net.entails(k, 3, 2, 1);
            net.entails(5, k, k, k);
            net.redundant(0);
            net.redundant(1);
        }
        isSomeNet(net);
    }

    private static void objectsAreApart() {
        promise = "objects are apart";
        RelationNet one = someNet();
        RelationNet other = new RelationNet(8);
        other.define(0, NONE);
        other.require(0, 7, 7, 7);
        other.assume(3, 0);
        isSomeNet(one);
        due("size() of the other", other.size(), 1);
        due("solutions() of the other", other.solutions(), 0);
    }

    /** Each call ends without throwing, whatever it is given, also with a full list. */
    private static void anyArgumentsInAnyState() {
        promise = "any arguments";
        int[] odd = {MIN, MIN + 1, -256, -33, -1, 0, 1, 2, 5, 6, 7, 8, 19, 20, 31, 32, 255, 256, MAX - 1, MAX};
        for (int a : odd) {
            for (int b : odd) {
                RelationNet net = new RelationNet(a);
                for (int k = 0; k < 20; k++) {
                    net.require(k % 6, 0, 1, k % 2);
                }
                net.define(a, b);
                net.require(a, b, a, b);
                net.assume(a, b);
                net.table(a);
                net.traits(a);
                net.next(a);
                net.possible(a, b);
                net.pairs(a, b);
                net.entails(a, b, b, a);
                net.redundant(a);
                net.retract(a);
                net.define(b, a);
                net.require(b, a, b, a);
                due("size(), " + a + ", " + b, net.size(), a < 0 || a > 19 ? 20 : sizeAfterTakingOneOut(a, b));
            }
        }
    }

    /** The last require puts one in again if its arguments are good. */
    private static int sizeAfterTakingOneOut(int a, int b) {
        int n = Math.max(2, Math.min(8, a));
        boolean good = b >= 0 && b <= 5 && b < n && a < n;
        return good ? 20 : 19;
    }
}
