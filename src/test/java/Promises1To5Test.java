/** Promises 1 to 5, the new object and the changes: each sentence has a test of its own; the answers are worked out by hand. */
public final class Promises1To5Test {
    private static final Checks checks = new Checks();

    public static void main(String[] args) {
        newObject();
        define();
        require();
        retract();
        assume();
        checks.end();
    }

    private static void newObject() {
        String promise = "Promise 1";
        checks.sentence(promise, "vars is the number n of variables", Promises1To5Test::varsInRange);
        checks.sentence(promise, "below 2 becomes 2", Promises1To5Test::varsTooSmall);
        checks.sentence(promise, "above 8 becomes 8", Promises1To5Test::varsTooLarge);
        checks.sentence(promise, "No constraints", Promises1To5Test::noConstraintsAtFirst);
        checks.sentence(promise, "no assumed values at first", Promises1To5Test::noAssumedValuesAtFirst);
    }

    private static void define() {
        String promise = "Promise 2";
        checks.sentence(promise, "Relation r gets this table.", Promises1To5Test::relationGetsTable);
        checks.sentence(promise, "-1 if r is not in 0 .. 5", Promises1To5Test::defineNoRelation);
        checks.sentence(promise, "-2 if table is not in 0 .. 255", Promises1To5Test::defineNoTable);
        checks.sentence(promise, "-3 if a constraint of the list names r", Promises1To5Test::defineNamed);
        checks.sentence(promise, "-3 if a constraint of the list names r", Promises1To5Test::defineNoLongerNamed);
        checks.sentence(promise, "Refusals, tested in this order", Promises1To5Test::defineOrderOfRefusals);
        checks.sentence(promise, "Otherwise answers how many triples belong to the relation now.", Promises1To5Test::defineAnswer);
    }

    private static void require() {
        String promise = "Promise 3";
        checks.sentence(promise, "The constraint (r, x, y, z) is put at the end of the list.", Promises1To5Test::putAtTheEnd);
        checks.sentence(promise, "-1 if r is not in 0 .. 5", Promises1To5Test::requireNoRelation);
        checks.sentence(promise, "-2 if one of x, y, z is not in 0 .. n-1", Promises1To5Test::requireNoVariable);
        checks.sentence(promise, "-3 if the list holds 20 constraints", Promises1To5Test::requireListFull);
        checks.sentence(promise, "Refusals, in this order", Promises1To5Test::requireOrderOfRefusals);
        checks.sentence(promise, "Otherwise answers the position of the new constraint.", Promises1To5Test::requireAnswer);
    }

    private static void retract() {
        String promise = "Promise 4";
        checks.sentence(promise, "The constraint at position i is taken out", Promises1To5Test::takenOut);
        checks.sentence(promise, "later ones move down by one", Promises1To5Test::laterOnesMoveDown);
        checks.sentence(promise, "later ones move down by one", Promises1To5Test::eachPlaceMovesDown);
        checks.sentence(promise, "later ones move down by one", Promises1To5Test::fullListMovesDown);
        checks.sentence(promise, "-1 if i is not in 0 .. size()-1", Promises1To5Test::retractNoPosition);
        checks.sentence(promise, "otherwise answers the relation number of the constraint taken out", Promises1To5Test::retractAnswer);
    }

    private static void assume() {
        String promise = "Promise 5";
        checks.sentence(promise, "Variable v gets the assumed value 0 or 1", Promises1To5Test::variableGetsValue);
        checks.sentence(promise, "or none for value FREE (2)", Promises1To5Test::variableIsFreed);
        checks.sentence(promise, "-1 if v is not in 0 .. n-1", Promises1To5Test::assumeNoVariable);
        checks.sentence(promise, "-2 if value is not in 0 .. 2", Promises1To5Test::assumeNoValue);
        checks.sentence(promise, "Refusals, in this order", Promises1To5Test::assumeOrderOfRefusals);
        checks.sentence(promise, "Otherwise answers what was assumed for v before (0, 1, or 2 for none).", Promises1To5Test::assumeAnswer);
    }

    private static void hasVariables(int vars, int n) {
        String with = "vars " + vars + ", ";
        RelationNet net = new RelationNet(vars);
        checks.due(with + "solutions()", net.solutions(), 1 << n);
        checks.due(with + "greatest()", net.greatest(), (1 << n) - 1);
        checks.due(with + "possible(n-1, 1)", net.possible(n - 1, 1), 1);
        checks.due(with + "possible(n, 1)", net.possible(n, 1), -1);
        checks.due(with + "pairs(n-1, 0)", net.pairs(n - 1, 0), 15);
        checks.due(with + "pairs(0, n)", net.pairs(0, n), -1);
        checks.due(with + "entails(0, 0, n-1, 0)", net.entails(0, 0, n - 1, 0), 1);
        checks.due(with + "entails(0, 0, n, 0)", net.entails(0, 0, n, 0), -2);
        checks.due(with + "assume(n, 0)", net.assume(n, 0), -1);
        checks.due(with + "assume(n-1, 1)", net.assume(n - 1, 1), 2);
        checks.due(with + "alwaysOne()", net.alwaysOne(), 1 << (n - 1));
        checks.due(with + "require(0, 0, 0, n)", net.require(0, 0, 0, n), -2);
        checks.due(with + "require(0, n-1, n-1, n-1)", net.require(0, n - 1, n - 1, n - 1), 0);
    }

    private static void varsInRange() {
        for (int n = 2; n <= 8; n++) {
            hasVariables(n, n);
        }
    }

    private static void varsTooSmall() {
        int[] small = {1, 0, -1, -2, -3, -8, -31, -32, -1000, -65536, Nets.MIN + 1, Nets.MIN};
        for (int vars : small) {
            hasVariables(vars, 2);
        }
    }

    private static void varsTooLarge() {
        int[] large = {9, 10, 16, 31, 32, 33, 34, 64, 256, 65536, Nets.MAX - 1, Nets.MAX};
        for (int vars : large) {
            hasVariables(vars, 8);
        }
    }

    private static void noConstraintsAtFirst() {
        for (int vars = 1; vars <= 9; vars++) {
            RelationNet net = new RelationNet(vars);
            checks.due("vars " + vars + ", size()", net.size(), 0);
            checks.due("vars " + vars + ", redundant(0)", net.redundant(0), -1);
            checks.due("vars " + vars + ", retract(0)", net.retract(0), -1);
            checks.due("vars " + vars + ", netTraits()", net.netTraits(), 127);
            for (int r = 0; r < 6; r++) {
                checks.due("vars " + vars + ", define(" + r + ", 0), not named", net.define(r, Nets.NONE), 0);
            }
            checks.due("vars " + vars + ", satisfiable() with all tables empty", net.satisfiable(), 1);
            checks.due("vars " + vars + ", require(5, 0, 1, 0)", net.require(5, 0, 1, 0), 0);
        }
    }

    private static void noAssumedValuesAtFirst() {
        for (int n = 2; n <= 8; n++) {
            RelationNet net = new RelationNet(n);
            checks.due("n " + n + ", alwaysOne()", net.alwaysOne(), 0);
            checks.due("n " + n + ", alwaysZero()", net.alwaysZero(), 0);
            for (int v = 0; v < n; v++) {
                checks.due("n " + n + ", assume(" + v + ", 2)", net.assume(v, 2), 2);
            }
        }
    }

    private static void relationGetsTable() {
        for (int r = 0; r < 6; r++) {
            RelationNet net = new RelationNet(3);
            net.define(r, Nets.ODD);
            for (int other = 0; other < 6; other++) {
                checks.due("table(" + other + ") after define(" + r + ", 150)", net.table(other), other == r ? Nets.ODD : Nets.EVERY);
            }
            net.define(r, Nets.NOT_ALL_EQUAL);
            checks.due("table(" + r + ") after define(" + r + ", 126)", net.table(r), Nets.NOT_ALL_EQUAL);
            net.require(r, 0, 1, 2);
            checks.due("solutions() with (" + r + ", 0, 1, 2)", net.solutions(), 6);
        }
    }

    private static void defineNoRelation() {
        RelationNet net = new RelationNet(3);
        for (int r : Nets.NO_RELATIONS) {
            checks.due("define(" + r + ", 0)", net.define(r, Nets.NONE), -1);
        }
        for (int r = 0; r < 6; r++) {
            checks.due("table(" + r + ") after refusals", net.table(r), Nets.EVERY);
        }
        checks.due("define(0, 0)", net.define(0, Nets.NONE), 0);
        checks.due("define(5, 0)", net.define(5, Nets.NONE), 0);
    }

    private static void defineNoTable() {
        RelationNet net = new RelationNet(3);
        net.define(1, Nets.ODD);
        for (int table : Nets.NO_TABLES) {
            checks.due("define(1, " + table + ")", net.define(1, table), -2);
        }
        checks.due("table(1) after refusals", net.table(1), Nets.ODD);
        checks.due("define(1, 0)", net.define(1, 0), 0);
        checks.due("define(1, 255)", net.define(1, 255), 8);
    }

    private static void defineNamed() {
        RelationNet net = Nets.of(Nets.ODD);
        checks.due("define(0, 0), named", net.define(0, Nets.NONE), -3);
        checks.due("define(0, 150), its own table", net.define(0, Nets.ODD), -3);
        checks.due("table(0)", net.table(0), Nets.ODD);
        checks.due("solutions()", net.solutions(), 4);
        checks.due("define(1, 0), not named", net.define(1, Nets.NONE), 0);
        // The only constraint that names relation 2 stands at each position of a full list in turn.
        for (int k = 0; k < 20; k++) {
            RelationNet full = new RelationNet(2);
            for (int i = 0; i < 20; i++) {
                full.require(i == k ? 2 : 4, 0, 1, 1);
            }
            checks.due("define(2, 0), named at position " + k, full.define(2, Nets.NONE), -3);
            checks.due("define(3, 0), named nowhere", full.define(3, Nets.NONE), 0);
        }
    }

    private static void defineNoLongerNamed() {
        RelationNet net = new RelationNet(3);
        net.require(2, 0, 1, 2);
        net.require(0, 0, 0, 0);
        net.require(2, 0, 0, 1);
        net.retract(0);
        checks.due("define(2, 1), still named once", net.define(2, Nets.ALL_ZERO), -3);
        net.retract(1);
        checks.due("define(2, 1), no longer named", net.define(2, Nets.ALL_ZERO), 1);
        checks.due("table(2)", net.table(2), Nets.ALL_ZERO);
        checks.due("define(0, 1), still named", net.define(0, Nets.ALL_ZERO), -3);
        net.retract(0);
        checks.due("define(0, 1), list empty", net.define(0, Nets.ALL_ZERO), 1);
        // A refused require names nothing.
        net.require(3, 0, 0, 3);
        checks.due("define(3, 1), require refused", net.define(3, Nets.ALL_ZERO), 1);
        net.entails(4, 0, 1, 2);
        checks.due("define(4, 1), only asked about", net.define(4, Nets.ALL_ZERO), 1);
    }

    private static void defineOrderOfRefusals() {
        RelationNet net = Nets.full(3);
        checks.due("define(-1, 256)", net.define(-1, 256), -1);
        checks.due("define(6, -1)", net.define(6, -1), -1);
        checks.due("define(MIN, MAX)", net.define(Nets.MIN, Nets.MAX), -1);
        checks.due("define(0, 256), named", net.define(0, 256), -2);
        checks.due("define(5, -1), named", net.define(5, -1), -2);
        checks.due("define(5, 255), named", net.define(5, 255), -3);
    }

    private static void defineAnswer() {
        RelationNet net = new RelationNet(2);
        int[] tables = {255, 0, 1, 2, 4, 8, 16, 32, 64, 128, 129, 22, 23, 150, 105, 240, 127, 254, 247, 255};
        int[] triples = {8, 0, 1, 1, 1, 1, 1, 1, 1, 1, 2, 3, 4, 4, 4, 4, 7, 7, 7, 8};
        for (int k = 0; k < tables.length; k++) {
            checks.due("define(4, " + tables[k] + ")", net.define(4, tables[k]), triples[k]);
        }
    }

    private static void putAtTheEnd() {
        RelationNet net = new RelationNet(4);
        net.define(1, Nets.ALL_ONE);
        net.define(3, Nets.ALL_ZERO);
        int[] relations = {3, 1, 4, 1, 5};
        int[] variables = {0, 1, 2, 3, 2};
        for (int k = 0; k < 5; k++) {
            net.require(relations[k], variables[k], variables[k], variables[k]);
        }
        checks.due("alwaysOne()", net.alwaysOne(), 2 + 8);
        checks.due("alwaysZero()", net.alwaysZero(), 1);
        for (int k = 0; k < 5; k++) {
            checks.due("retract(0), the one put in " + k + "th", net.retract(0), relations[k]);
        }
        net.require(3, 0, 0, 0);
        net.require(3, 0, 0, 0);
        checks.due("size() with the same one twice", net.size(), 2);
        net.retract(0);
        checks.due("alwaysZero() with the second of them", net.alwaysZero(), 1);
    }

    private static void requireNoRelation() {
        RelationNet net = new RelationNet(3);
        for (int r : Nets.NO_RELATIONS) {
            checks.due("require(" + r + ", 0, 1, 2)", net.require(r, 0, 1, 2), -1);
        }
        checks.due("size() after refusals", net.size(), 0);
        checks.due("require(0, 0, 1, 2)", net.require(0, 0, 1, 2), 0);
        checks.due("require(5, 0, 1, 2)", net.require(5, 0, 1, 2), 1);
    }

    private static void requireNoVariable() {
        for (int n = 2; n <= 8; n++) {
            RelationNet net = new RelationNet(n);
            for (int v : Nets.noVariables(n)) {
                checks.due("n " + n + ", require(0, " + v + ", 0, 0)", net.require(0, v, 0, 0), -2);
                checks.due("n " + n + ", require(0, 0, " + v + ", 0)", net.require(0, 0, v, 0), -2);
                checks.due("n " + n + ", require(0, 0, 0, " + v + ")", net.require(0, 0, 0, v), -2);
                checks.due("n " + n + ", require(0, v, v, v), v " + v, net.require(0, v, v, v), -2);
            }
            checks.due("n " + n + ", size() after refusals", net.size(), 0);
            checks.due("n " + n + ", require(0, n-1, 0, 0)", net.require(0, n - 1, 0, 0), 0);
            checks.due("n " + n + ", require(0, 0, n-1, 0)", net.require(0, 0, n - 1, 0), 1);
            checks.due("n " + n + ", require(0, 0, 0, n-1)", net.require(0, 0, 0, n - 1), 2);
        }
    }

    private static void requireListFull() {
        RelationNet net = new RelationNet(3);
        for (int k = 0; k < 20; k++) {
            checks.due("require, " + k + " in the list", net.require(0, 0, 1, 2), k);
        }
        checks.due("require, 20 in the list", net.require(0, 0, 1, 2), -3);
        checks.due("require of another relation, 20 in the list", net.require(5, 2, 2, 2), -3);
        checks.due("size()", net.size(), 20);
        checks.due("retract(7)", net.retract(7), 0);
        checks.due("require, 19 in the list", net.require(5, 0, 1, 2), 19);
        checks.due("require, 20 in the list again", net.require(5, 0, 1, 2), -3);
        checks.due("retract(19), the new one", net.retract(19), 5);
    }

    private static void requireOrderOfRefusals() {
        RelationNet roomy = new RelationNet(3);
        checks.due("require(-1, 3, 0, 0)", roomy.require(-1, 3, 0, 0), -1);
        checks.due("require(6, 0, -1, 0)", roomy.require(6, 0, -1, 0), -1);
        checks.due("require(MAX, 0, 0, MIN)", roomy.require(Nets.MAX, 0, 0, Nets.MIN), -1);
        RelationNet full = Nets.full(3);
        checks.due("require(6, 0, 1, 2), list full", full.require(6, 0, 1, 2), -1);
        checks.due("require(-1, 3, 3, 3), list full", full.require(-1, 3, 3, 3), -1);
        checks.due("require(0, 3, 1, 2), list full", full.require(0, 3, 1, 2), -2);
        checks.due("require(0, 0, -1, 2), list full", full.require(0, 0, -1, 2), -2);
        checks.due("require(0, 0, 1, 3), list full", full.require(0, 0, 1, 3), -2);
        checks.due("require(0, 0, 1, 2), list full", full.require(0, 0, 1, 2), -3);
    }

    private static void requireAnswer() {
        RelationNet net = new RelationNet(2);
        checks.due("require, empty list", net.require(4, 1, 0, 1), 0);
        checks.due("require, one in the list", net.require(2, 0, 0, 1), 1);
        checks.due("require, the same once more", net.require(2, 0, 0, 1), 2);
        net.retract(0);
        checks.due("require after retract", net.require(3, 1, 1, 1), 2);
        net.retract(2);
        net.retract(1);
        net.retract(0);
        checks.due("require, list empty again", net.require(3, 1, 1, 1), 0);
    }

    private static void takenOut() {
        RelationNet net = new RelationNet(4);
        net.define(0, Nets.ALL_ONE);
        for (int v = 0; v < 4; v++) {
            net.require(0, v, v, v);
        }
        checks.due("alwaysOne() of four", net.alwaysOne(), 15);
        net.retract(2);
        checks.due("size() without the third", net.size(), 3);
        checks.due("alwaysOne() without the third", net.alwaysOne(), 11);
        net.retract(2);
        checks.due("alwaysOne() without the last", net.alwaysOne(), 3);
        net.retract(0);
        checks.due("alwaysOne() without the first", net.alwaysOne(), 2);
        net.retract(0);
        checks.due("alwaysOne() without any", net.alwaysOne(), 0);
        checks.due("solutions() without any", net.solutions(), 16);
    }

    private static void laterOnesMoveDown() {
        for (int i = 0; i < 6; i++) {
            RelationNet net = new RelationNet(6);
            for (int r = 0; r < 6; r++) {
                net.require(r, r, r, r);
            }
            net.retract(i);
            for (int k = 4; k >= 0; k--) {
                checks.due("retract(" + k + ") after retract(" + i + ")", net.retract(k), k < i ? k : k + 1);
            }
            checks.due("size()", net.size(), 0);
        }
    }

    private static void eachPlaceMovesDown() {
        int[] tables = {Nets.ONLY_A, Nets.ONLY_B, Nets.ONLY_C};
        int[] ones = {16, 4, 2};
        for (int p = 0; p < 3; p++) {
            RelationNet net = new RelationNet(5);
            net.define(1, tables[p]);
            net.require(0, 0, 3, 0);
            net.require(1, 4, 2, 1);
            net.retract(0);
            checks.due("alwaysOne() after a move, place " + p, net.alwaysOne(), ones[p]);
            checks.due("alwaysZero() after a move, place " + p, net.alwaysZero(), 22 - ones[p]);
        }
    }

    private static void fullListMovesDown() {
        RelationNet net = Nets.full(8);
        for (int k = 0; k < 20; k++) {
            checks.due("retract(0), call " + k, net.retract(0), k % 6);
            checks.due("size() after call " + k, net.size(), 19 - k);
        }
        RelationNet last = new RelationNet(8);
        last.define(1, Nets.A_IS_ONE);
        for (int k = 0; k < 19; k++) {
            last.require(0, 0, 0, 0);
        }
        last.require(1, 7, 7, 7);
        last.retract(0);
        checks.due("redundant(18), once at position 19", last.redundant(18), 0);
        checks.due("retract(18), once at position 19", last.retract(18), 1);
    }

    private static void retractNoPosition() {
        RelationNet net = new RelationNet(3);
        checks.due("retract(0), empty list", net.retract(0), -1);
        checks.due("retract(-1), empty list", net.retract(-1), -1);
        net.require(3, 0, 1, 2);
        net.require(4, 0, 1, 2);
        int[] off = {Nets.MIN, Nets.MIN + 1, -65536, -2, -1, 2, 3, 19, 20, 32, 65536, Nets.MAX - 1, Nets.MAX};
        for (int i : off) {
            checks.due("retract(" + i + "), two in the list", net.retract(i), -1);
        }
        checks.due("size() after refusals", net.size(), 2);
        checks.due("retract(1)", net.retract(1), 4);
        checks.due("retract(1), once a position", net.retract(1), -1);
        checks.due("retract(0)", net.retract(0), 3);
        checks.due("retract(0), empty again", net.retract(0), -1);
        RelationNet full = Nets.full(3);
        checks.due("retract(20), list full", full.retract(20), -1);
        checks.due("retract(-1), list full", full.retract(-1), -1);
        checks.due("retract(19), list full", full.retract(19), 1);
    }

    private static void retractAnswer() {
        for (int r = 0; r < 6; r++) {
            RelationNet net = new RelationNet(3);
            net.require(5 - r, 0, 0, 0);
            net.require(r, 2, 1, 0);
            net.require(5 - r, 1, 1, 1);
            checks.due("retract(1), the one of relation " + r, net.retract(1), r);
        }
    }

    private static void variableGetsValue() {
        for (int n = 2; n <= 8; n++) {
            for (int v = 0; v < n; v++) {
                RelationNet net = new RelationNet(n);
                String with = "n " + n + ", variable " + v + ", ";
                net.assume(v, 1);
                checks.due(with + "alwaysOne() with 1", net.alwaysOne(), 1 << v);
                checks.due(with + "alwaysZero() with 1", net.alwaysZero(), 0);
                net.assume(v, 0);
                checks.due(with + "alwaysOne() with 0", net.alwaysOne(), 0);
                checks.due(with + "alwaysZero() with 0", net.alwaysZero(), 1 << v);
                checks.due(with + "solutions() with 0", net.solutions(), 1 << (n - 1));
            }
        }
    }

    private static void variableIsFreed() {
        checks.due("FREE", RelationNet.FREE, 2);
        for (int value = 0; value < 3; value++) {
            RelationNet net = new RelationNet(3);
            net.assume(0, 1);
            net.assume(2, value);
            checks.due("assume(2, FREE), " + value + " before", net.assume(2, RelationNet.FREE), value);
            checks.due("possible(2, 0)", net.possible(2, 0), 1);
            checks.due("possible(2, 1)", net.possible(2, 1), 1);
            checks.due("solutions() with variable 0 assumed still", net.solutions(), 4);
            checks.due("assume(2, FREE), none before", net.assume(2, RelationNet.FREE), 2);
        }
    }

    private static void assumeNoVariable() {
        for (int n = 2; n <= 8; n++) {
            RelationNet net = new RelationNet(n);
            for (int v : Nets.noVariables(n)) {
                for (int value = 0; value < 3; value++) {
                    checks.due("n " + n + ", assume(" + v + ", " + value + ")", net.assume(v, value), -1);
                }
            }
            checks.due("n " + n + ", solutions() after refusals", net.solutions(), 1 << n);
            checks.due("n " + n + ", assume(0, 0)", net.assume(0, 0), 2);
            checks.due("n " + n + ", assume(n-1, 0)", net.assume(n - 1, 0), 2);
        }
    }

    private static void assumeNoValue() {
        int[] off = {Nets.MIN, Nets.MIN + 1, -65536, -2, -1, 3, 4, 32, 256, 65536, Nets.MAX - 1, Nets.MAX};
        for (int before = 0; before < 3; before++) {
            RelationNet net = new RelationNet(3);
            net.assume(1, before);
            for (int value : off) {
                checks.due("assume(1, " + value + "), " + before + " before", net.assume(1, value), -2);
            }
            checks.due("assume(1, 2) after refusals", net.assume(1, 2), before);
        }
    }

    private static void assumeOrderOfRefusals() {
        RelationNet net = new RelationNet(3);
        checks.due("assume(-1, 3)", net.assume(-1, 3), -1);
        checks.due("assume(3, -1)", net.assume(3, -1), -1);
        checks.due("assume(MIN, MAX)", net.assume(Nets.MIN, Nets.MAX), -1);
        checks.due("assume(2, -1)", net.assume(2, -1), -2);
    }

    private static void assumeAnswer() {
        for (int before = 0; before < 3; before++) {
            for (int value = 0; value < 3; value++) {
                RelationNet net = new RelationNet(2);
                checks.due("assume(1, " + before + "), new object", net.assume(1, before), 2);
                checks.due("assume(0, 1), another variable", net.assume(0, 1), 2);
                checks.due("assume(1, " + value + ")", net.assume(1, value), before);
                checks.due("assume(1, 0)", net.assume(1, 0), value);
            }
        }
    }
}
