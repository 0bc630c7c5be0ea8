/** Promises 15 to 20, what holds in the solutions: each sentence has a test of its own; the answers are worked out by hand. */
public final class Promises15To20Test {
    private static final Checks checks = new Checks();

    public static void main(String[] args) {
        possible();
        always();
        pairs();
        entails();
        redundant();
        checks.end();
    }

    private static void possible() {
        String promise = "Promise 15";
        checks.sentence(promise, "1 if some solution gives v this value", Promises15To20Test::possibleValue);
        checks.sentence(promise, "otherwise 0", Promises15To20Test::impossibleValue);
        checks.sentence(promise, "otherwise 0", Promises15To20Test::impossibleWithoutSolution);
        checks.sentence(promise, "-1 if v is not in 0 .. n-1", Promises15To20Test::possibleNoVariable);
        checks.sentence(promise, "-2 if value is not 0 or 1", Promises15To20Test::possibleNoValue);
        checks.sentence(promise, "Refusals, in this order", Promises15To20Test::possibleOrderOfRefusals);
    }

    private static void always() {
        checks.sentence("Promise 16", "The sum of 2^v over the variables v that have the value 1 in every solution",
            Promises15To20Test::alwaysOne);
        checks.sentence("Promise 16", "-1 if there is no solution", Promises15To20Test::alwaysOneWithoutSolution);
        checks.sentence("Promise 17", "The sum of 2^v over the variables v that have the value 0 in every solution",
            Promises15To20Test::alwaysZero);
        checks.sentence("Promise 17", "-1 if there is no solution", Promises15To20Test::alwaysZeroWithoutSolution);
    }

    private static void pairs() {
        String promise = "Promise 18";
        checks.sentence(promise, "1 if some solution gives u the value 0 and v the value 0", Promises15To20Test::pairOfZeros);
        checks.sentence(promise, "2 if some solution gives u 0 and v 1", Promises15To20Test::pairOfZeroAndOne);
        checks.sentence(promise, "4 if some solution gives u 1 and v 0", Promises15To20Test::pairOfOneAndZero);
        checks.sentence(promise, "8 if some solution gives u 1 and v 1", Promises15To20Test::pairOfOnes);
        checks.sentence(promise, "The sum of", Promises15To20Test::sumOfPairs);
        checks.sentence(promise, "The sum of", Promises15To20Test::noPairsWithoutSolution);
        checks.sentence(promise, "-1 if u or v is not in 0 .. n-1.", Promises15To20Test::pairsNoVariable);
        checks.sentence(promise, "u and v may be the same.", Promises15To20Test::pairsOfTheSame);
    }

    private static void entails() {
        String promise = "Promise 19";
        checks.sentence(promise, "1 if in every solution the triple (value of x, value of y, value of z) belongs to relation r",
            Promises15To20Test::entailed);
        checks.sentence(promise, "(so also if there is no solution)", Promises15To20Test::entailedWithoutSolution);
        checks.sentence(promise, "otherwise 0", Promises15To20Test::notEntailed);
        checks.sentence(promise, "The list isn't changed", Promises15To20Test::entailsChangesNoList);
        checks.sentence(promise, "and need not name r", Promises15To20Test::entailsOfUnnamed);
        checks.sentence(promise, "-1 if r is not in 0 .. 5", Promises15To20Test::entailsNoRelation);
        checks.sentence(promise, "-2 if one of x, y, z is not in 0 .. n-1", Promises15To20Test::entailsNoVariable);
        checks.sentence(promise, "Refusals, in this order", Promises15To20Test::entailsOrderOfRefusals);
    }

    private static void redundant() {
        String promise = "Promise 20";
        checks.sentence(promise, "1 if, with the constraint at position i left out", Promises15To20Test::leftOut);
        checks.sentence(promise, "the solutions would be just the same", Promises15To20Test::sameSolutions);
        checks.sentence(promise, "the solutions would be just the same", Promises15To20Test::sameWithoutSolution);
        checks.sentence(promise, "and all others", Promises15To20Test::othersKept);
        checks.sentence(promise, "and the assumed values kept", Promises15To20Test::assumedValuesKept);
        checks.sentence(promise, "otherwise 0", Promises15To20Test::notRedundant);
        checks.sentence(promise, "-1 if i is not in 0 .. size()-1.", Promises15To20Test::redundantNoPosition);
    }

    private static void possibleValue() {
        RelationNet net = Nets.of(Nets.ONLY_B + Nets.ALL_ONE);
        checks.due("possible(0, 0) of (0,1,0) and (1,1,1)", net.possible(0, 0), 1);
        checks.due("possible(0, 1) of (0,1,0) and (1,1,1)", net.possible(0, 1), 1);
        checks.due("possible(1, 1) of (0,1,0) and (1,1,1)", net.possible(1, 1), 1);
        RelationNet all = new RelationNet(8);
        for (int v = 0; v < 8; v++) {
            checks.due("possible(" + v + ", 0) of the solution 0 alone", zeros().possible(v, 0), 1);
            checks.due("possible(" + v + ", 1) of the solution 255 alone", ones().possible(v, 1), 1);
            checks.due("possible(" + v + ", 0) of all", all.possible(v, 0), 1);
            checks.due("possible(" + v + ", 1) of all", all.possible(v, 1), 1);
        }
    }

    private static RelationNet zeros() {
        RelationNet net = new RelationNet(8);
        for (int v = 0; v < 8; v++) {
            net.assume(v, 0);
        }
        return net;
    }

    private static RelationNet ones() {
        RelationNet net = new RelationNet(8);
        for (int v = 0; v < 8; v++) {
            net.assume(v, 1);
        }
        return net;
    }

    private static void impossibleValue() {
        RelationNet net = Nets.of(Nets.ONLY_B + Nets.ALL_ONE);
        checks.due("possible(1, 0) of (0,1,0) and (1,1,1)", net.possible(1, 0), 0);
        net.assume(2, 0);
        checks.due("possible(2, 1) with 2 zero", net.possible(2, 1), 0);
        checks.due("possible(0, 1) with 2 zero", net.possible(0, 1), 0);
        for (int v = 0; v < 8; v++) {
            checks.due("possible(" + v + ", 1) of the solution 0 alone", zeros().possible(v, 1), 0);
            checks.due("possible(" + v + ", 0) of the solution 255 alone", ones().possible(v, 0), 0);
        }
    }

    private static void impossibleWithoutSolution() {
        for (RelationNet net : Nets.withoutSolution()) {
            for (int v = 0; v < 3; v++) {
                checks.due("possible(" + v + ", 0) without a solution", net.possible(v, 0), 0);
                checks.due("possible(" + v + ", 1) without a solution", net.possible(v, 1), 0);
            }
        }
    }

    private static void possibleNoVariable() {
        for (int n = 2; n <= 8; n++) {
            RelationNet net = new RelationNet(n);
            for (int v : Nets.noVariables(n)) {
                checks.due("n " + n + ", possible(" + v + ", 0)", net.possible(v, 0), -1);
                checks.due("n " + n + ", possible(" + v + ", 1)", net.possible(v, 1), -1);
            }
            checks.due("n " + n + ", possible(0, 1)", net.possible(0, 1), 1);
            checks.due("n " + n + ", possible(n-1, 1)", net.possible(n - 1, 1), 1);
        }
        checks.due("possible(3, 0) without a solution", Nets.of(Nets.NONE).possible(3, 0), -1);
    }

    private static void possibleNoValue() {
        // FREE (2) can be assumed, but it is no value that a solution gives.
        int[] off = {Nets.MIN, Nets.MIN + 1, -65536, -2, -1, RelationNet.FREE, 3, 32, 65536, Nets.MAX - 1, Nets.MAX};
        RelationNet net = new RelationNet(3);
        RelationNet none = Nets.of(Nets.NONE);
        for (int value : off) {
            checks.due("possible(0, " + value + ")", net.possible(0, value), -2);
            checks.due("possible(2, " + value + ") without a solution", none.possible(2, value), -2);
        }
    }

    private static void possibleOrderOfRefusals() {
        RelationNet net = new RelationNet(3);
        checks.due("possible(-1, 2)", net.possible(-1, 2), -1);
        checks.due("possible(3, -1)", net.possible(3, -1), -1);
        checks.due("possible(MAX, MIN)", net.possible(Nets.MAX, Nets.MIN), -1);
        checks.due("possible(2, -1)", net.possible(2, -1), -2);
    }

    private static void alwaysOne() {
        int[] tables = {Nets.ONLY_A, Nets.ONLY_B, Nets.ONLY_C, Nets.ALL_ZERO, Nets.ALL_ONE, Nets.ONE_IN_THREE, Nets.A_IS_ONE, Nets.EVERY};
        int[] sums = {1, 2, 4, 0, 7, 0, 1, 0};
        for (int k = 0; k < tables.length; k++) {
            checks.due("alwaysOne() of table " + tables[k], Nets.of(tables[k]).alwaysOne(), sums[k]);
        }
        checks.due("alwaysOne() of the solution 255 alone", ones().alwaysOne(), 255);
        checks.due("alwaysOne() of the solution 0 alone", zeros().alwaysOne(), 0);
        RelationNet net = new RelationNet(8);
        checks.due("alwaysOne() of all", net.alwaysOne(), 0);
        net.assume(7, 1);
        net.define(0, Nets.NOT_ALL_ZERO);
        net.assume(6, 0);
        net.require(0, 6, 6, 5);
        checks.due("alwaysOne() by an assumed value and a constraint", net.alwaysOne(), 128 + 32);
    }

    private static void alwaysOneWithoutSolution() {
        for (RelationNet net : Nets.withoutSolution()) {
            checks.due("alwaysOne() without a solution", net.alwaysOne(), -1);
        }
    }

    private static void alwaysZero() {
        int[] tables = {Nets.ONLY_A, Nets.ONLY_B, Nets.ONLY_C, Nets.ALL_ZERO, Nets.ALL_ONE, Nets.ONE_IN_THREE, Nets.A_IS_ONE, Nets.EVERY,
            Nets.ONLY_A + Nets.ONLY_B};
        int[] sums = {6, 5, 3, 7, 0, 0, 0, 0, 4};
        for (int k = 0; k < tables.length; k++) {
            checks.due("alwaysZero() of table " + tables[k], Nets.of(tables[k]).alwaysZero(), sums[k]);
        }
        checks.due("alwaysZero() of the solution 0 alone", zeros().alwaysZero(), 255);
        checks.due("alwaysZero() of the solution 255 alone", ones().alwaysZero(), 0);
        // No bit stands for a variable that the object does not have.
        for (int n = 2; n <= 8; n++) {
            RelationNet net = new RelationNet(n);
            checks.due("alwaysZero() of all, n " + n, net.alwaysZero(), 0);
            net.define(0, Nets.ALL_ZERO);
            for (int v = 0; v < n; v++) {
                net.require(0, v, v, v);
            }
            checks.due("alwaysZero() of the solution 0 alone, n " + n, net.alwaysZero(), (1 << n) - 1);
        }
    }

    private static void alwaysZeroWithoutSolution() {
        for (RelationNet net : Nets.withoutSolution()) {
            checks.due("alwaysZero() without a solution", net.alwaysZero(), -1);
        }
    }

    /** Variables 5 and 2 of eight have these values, the others are free. */
    private static RelationNet withPair(int u, int v) {
        RelationNet net = new RelationNet(8);
        net.assume(5, u);
        net.assume(2, v);
        return net;
    }

    private static void pairOfZeros() {
        checks.due("pairs(5, 2) with 0 and 0", withPair(0, 0).pairs(5, 2), 1);
        checks.due("pairs(2, 5) with 0 and 0", withPair(0, 0).pairs(2, 5), 1);
        checks.due("pairs(0, 2) without (0,0,0) and (0,1,0)", Nets.of(Nets.EVERY - Nets.ALL_ZERO - Nets.ONLY_B).pairs(0, 2), 14);
    }

    private static void pairOfZeroAndOne() {
        checks.due("pairs(5, 2) with 0 and 1", withPair(0, 1).pairs(5, 2), 2);
        checks.due("pairs(2, 5) with 1 and 0", withPair(1, 0).pairs(2, 5), 2);
        checks.due("pairs(1, 2) of (1,0,1)", Nets.of(32).pairs(1, 2), 2);
    }

    private static void pairOfOneAndZero() {
        checks.due("pairs(5, 2) with 1 and 0", withPair(1, 0).pairs(5, 2), 4);
        checks.due("pairs(2, 5) with 0 and 1", withPair(0, 1).pairs(2, 5), 4);
        checks.due("pairs(0, 1) of (1,0,1)", Nets.of(32).pairs(0, 1), 4);
    }

    private static void pairOfOnes() {
        checks.due("pairs(5, 2) with 1 and 1", withPair(1, 1).pairs(5, 2), 8);
        checks.due("pairs(2, 5) with 1 and 1", withPair(1, 1).pairs(2, 5), 8);
        checks.due("pairs(0, 2) of (1,0,1)", Nets.of(32).pairs(0, 2), 8);
    }

    private static void sumOfPairs() {
        for (int n = 2; n <= 8; n++) {
            RelationNet net = new RelationNet(n);
            checks.due("pairs(0, n-1), empty list, n " + n, net.pairs(0, n - 1), 15);
            checks.due("pairs(n-1, 0), empty list, n " + n, net.pairs(n - 1, 0), 15);
        }
        checks.due("pairs(0, 2) of all equal", Nets.of(Nets.ALL_EQUAL).pairs(0, 2), 1 + 8);
        checks.due("pairs(2, 1) of one in three", Nets.of(Nets.ONE_IN_THREE).pairs(2, 1), 1 + 2 + 4);
        checks.due("pairs(0, 1) of the first one", Nets.of(Nets.A_IS_ONE).pairs(0, 1), 4 + 8);
        checks.due("pairs(1, 0) of the first one", Nets.of(Nets.A_IS_ONE).pairs(1, 0), 2 + 8);
        RelationNet net = Nets.of(Nets.ONE_IN_THREE);
        net.assume(0, 0);
        checks.due("pairs(1, 2) of one in three with 0 zero", net.pairs(1, 2), 2 + 4);
    }

    private static void noPairsWithoutSolution() {
        for (RelationNet net : Nets.withoutSolution()) {
            checks.due("pairs(0, 1) without a solution", net.pairs(0, 1), 0);
            checks.due("pairs(2, 2) without a solution", net.pairs(2, 2), 0);
        }
    }

    private static void pairsNoVariable() {
        for (int n = 2; n <= 8; n++) {
            RelationNet net = new RelationNet(n);
            for (int v : Nets.noVariables(n)) {
                checks.due("n " + n + ", pairs(" + v + ", 0)", net.pairs(v, 0), -1);
                checks.due("n " + n + ", pairs(n-1, " + v + ")", net.pairs(n - 1, v), -1);
                checks.due("n " + n + ", pairs(" + v + ", " + v + ")", net.pairs(v, v), -1);
            }
        }
        RelationNet none = Nets.of(Nets.NONE);
        checks.due("pairs(3, 0) without a solution", none.pairs(3, 0), -1);
        checks.due("pairs(0, -1) without a solution", none.pairs(0, -1), -1);
    }

    private static void pairsOfTheSame() {
        for (int v = 0; v < 8; v++) {
            checks.due("pairs(" + v + ", " + v + "), empty list", new RelationNet(8).pairs(v, v), 1 + 8);
            checks.due("pairs(" + v + ", " + v + ") of the solution 0 alone", zeros().pairs(v, v), 1);
            checks.due("pairs(" + v + ", " + v + ") of the solution 255 alone", ones().pairs(v, v), 8);
        }
    }

    /** Just one of the variables 0, 1, 2 is 1; relations 1 to 5 are named by no constraint. */
    private static RelationNet oneInThree() {
        RelationNet net = Nets.of(Nets.ONE_IN_THREE);
        net.define(1, Nets.NOT_ALL_ONE);
        net.define(2, Nets.ONLY_A);
        net.define(3, Nets.NONE);
        net.define(4, Nets.ODD);
        return net;
    }

    private static void entailed() {
        RelationNet net = oneInThree();
        checks.due("entails(0, 0, 1, 2), the constraint itself", net.entails(0, 0, 1, 2), 1);
        checks.due("entails(0, 2, 0, 1), turned", net.entails(0, 2, 0, 1), 1);
        checks.due("entails(1, 0, 0, 1), the same variable twice", net.entails(1, 0, 0, 1), 1);
        checks.due("entails(4, 1, 2, 0)", net.entails(4, 1, 2, 0), 1);
        checks.due("entails(5, 0, 1, 2), full relation", net.entails(5, 0, 1, 2), 1);
        net.assume(1, 1);
        checks.due("entails(2, 1, 0, 2) with 1 one", net.entails(2, 1, 0, 2), 1);
        checks.due("entails(5, 0, 7, 3), list empty", new RelationNet(8).entails(5, 0, 7, 3), 1);
    }

    private static void entailedWithoutSolution() {
        for (RelationNet net : Nets.withoutSolution()) {
            net.define(3, Nets.NONE);
            for (int r = 0; r < 6; r++) {
                checks.due("entails(" + r + ", 0, 1, 2) without a solution", net.entails(r, 0, 1, 2), 1);
            }
        }
        RelationNet net = new RelationNet(2);
        net.define(0, Nets.NONE);
        checks.due("entails(0, 0, 1, 1) of the empty relation, with solutions", net.entails(0, 0, 1, 1), 0);
        net.require(0, 0, 1, 1);
        checks.due("entails(0, 0, 1, 1) of the empty relation, without", net.entails(0, 0, 1, 1), 1);
    }

    private static void notEntailed() {
        RelationNet net = oneInThree();
        checks.due("entails(0, 0, 0, 1)", net.entails(0, 0, 0, 1), 0);
        checks.due("entails(1, 0, 0, 0)", net.entails(1, 0, 0, 0), 0);
        checks.due("entails(2, 0, 1, 2)", net.entails(2, 0, 1, 2), 0);
        checks.due("entails(3, 0, 1, 2), empty relation", net.entails(3, 0, 1, 2), 0);
        net.assume(1, 1);
        checks.due("entails(2, 0, 1, 2) with 1 one", net.entails(2, 0, 1, 2), 0);
        checks.due("entails(2, 0, 2, 1) with 1 one", net.entails(2, 0, 2, 1), 0);
        // One solution against it is enough, whichever it is.
        for (int t = 0; t < 8; t++) {
            RelationNet all = new RelationNet(3);
            all.define(1, Nets.EVERY - (1 << t));
            checks.due("entails(1, 0, 1, 2) without triple " + t, all.entails(1, 0, 1, 2), 0);
        }
    }

    private static void entailsChangesNoList() {
        RelationNet net = oneInThree();
        net.entails(1, 0, 1, 2);
        net.entails(3, 0, 1, 2);
        checks.due("size()", net.size(), 1);
        checks.due("solutions()", net.solutions(), 3);
        checks.due("define(3, 1), asked about but not named", net.define(3, Nets.ALL_ZERO), 1);
        RelationNet full = Nets.full(3);
        checks.due("entails(0, 2, 2, 2), list full", full.entails(0, 2, 2, 2), 1);
        checks.due("size(), list full", full.size(), 20);
        checks.due("retract(19), list full", full.retract(19), 1);
    }

    private static void entailsOfUnnamed() {
        RelationNet empty = new RelationNet(2);
        empty.define(2, Nets.NOT_ALL_ONE);
        checks.due("entails(2, 0, 1, 1), empty list", empty.entails(2, 0, 1, 1), 0);
        empty.assume(1, 0);
        checks.due("entails(2, 0, 1, 1), empty list, 1 zero", empty.entails(2, 0, 1, 1), 1);
        for (int r = 1; r < 6; r++) {
            RelationNet net = Nets.of(Nets.ONE_IN_THREE);
            net.define(r, Nets.ODD);
            checks.due("entails(" + r + ", 0, 1, 2) of odd, not named", net.entails(r, 0, 1, 2), 1);
            net.define(r, Nets.ALL_EQUAL);
            checks.due("entails(" + r + ", 0, 1, 2) of all equal, not named", net.entails(r, 0, 1, 2), 0);
        }
    }

    private static void entailsNoRelation() {
        RelationNet net = new RelationNet(3);
        RelationNet none = Nets.of(Nets.NONE);
        for (int r : Nets.NO_RELATIONS) {
            checks.due("entails(" + r + ", 0, 1, 2)", net.entails(r, 0, 1, 2), -1);
            checks.due("entails(" + r + ", 0, 1, 2) without a solution", none.entails(r, 0, 1, 2), -1);
        }
        checks.due("entails(0, 0, 1, 2)", net.entails(0, 0, 1, 2), 1);
        checks.due("entails(5, 0, 1, 2)", net.entails(5, 0, 1, 2), 1);
    }

    private static void entailsNoVariable() {
        for (int n = 2; n <= 8; n++) {
            RelationNet net = new RelationNet(n);
            for (int v : Nets.noVariables(n)) {
                checks.due("n " + n + ", entails(5, " + v + ", 0, 0)", net.entails(5, v, 0, 0), -2);
                checks.due("n " + n + ", entails(5, 0, " + v + ", 0)", net.entails(5, 0, v, 0), -2);
                checks.due("n " + n + ", entails(5, 0, 0, " + v + ")", net.entails(5, 0, 0, v), -2);
            }
            checks.due("n " + n + ", entails(5, n-1, n-1, n-1)", net.entails(5, n - 1, n - 1, n - 1), 1);
        }
        RelationNet none = Nets.of(Nets.NONE);
        checks.due("entails(0, 3, 0, 0) without a solution", none.entails(0, 3, 0, 0), -2);
        checks.due("entails(0, 0, 0, -1) without a solution", none.entails(0, 0, 0, -1), -2);
    }

    private static void entailsOrderOfRefusals() {
        RelationNet net = new RelationNet(3);
        checks.due("entails(-1, 3, 0, 0)", net.entails(-1, 3, 0, 0), -1);
        checks.due("entails(6, 0, -1, 0)", net.entails(6, 0, -1, 0), -1);
        checks.due("entails(MAX, 0, 0, MIN)", net.entails(Nets.MAX, 0, 0, Nets.MIN), -1);
        checks.due("entails(5, 0, 0, 3)", net.entails(5, 0, 0, 3), -2);
    }

    private static void leftOut() {
        // The only constraint that forbids anything stands at each position of a full list in turn.
        for (int k = 0; k < 20; k++) {
            RelationNet net = new RelationNet(8);
            net.define(1, Nets.A_IS_ONE);
            for (int i = 0; i < 20; i++) {
                net.require(i == k ? 1 : 0, 7, 0, 1);
            }
            for (int i = 0; i < 20; i++) {
                checks.due("redundant(" + i + ") with position " + k + " forbidding", net.redundant(i), i == k ? 0 : 1);
            }
        }
    }

    private static void sameSolutions() {
        RelationNet net = Nets.of(Nets.ONE_IN_THREE);
        net.define(1, Nets.NOT_ALL_ONE);
        net.require(1, 0, 1, 2);
        checks.due("redundant(0), the narrow one", net.redundant(0), 0);
        checks.due("redundant(1), the wide one", net.redundant(1), 1);
        net.require(0, 2, 1, 0);
        checks.due("redundant(0), said twice", net.redundant(0), 1);
        checks.due("redundant(2), said twice", net.redundant(2), 1);
        // One solution more, the least or the greatest, is enough to differ.
        checks.due("redundant(0) of not all zero", Nets.of(Nets.NOT_ALL_ZERO).redundant(0), 0);
        checks.due("redundant(0) of not all one", Nets.of(Nets.NOT_ALL_ONE).redundant(0), 0);
        checks.due("redundant(0) of every triple", Nets.of(Nets.EVERY).redundant(0), 1);
    }

    private static void sameWithoutSolution() {
        RelationNet net = Nets.of(Nets.ONE_IN_THREE);
        net.define(1, Nets.NOT_ALL_ONE);
        net.define(2, Nets.ALL_ZERO);
        net.require(1, 0, 1, 2);
        net.require(2, 0, 1, 2);
        checks.due("redundant(0), a solution only without it", net.redundant(0), 0);
        checks.due("redundant(1), no solution with or without it", net.redundant(1), 1);
        checks.due("redundant(2), solutions only without it", net.redundant(2), 0);
        net.require(0, 1, 2, 0);
        checks.due("redundant(0), no solution even without it", net.redundant(0), 1);
        checks.due("redundant(0) of the empty relation alone", Nets.of(Nets.NONE).redundant(0), 0);
    }

    private static void othersKept() {
        // All equal along 0, 1, 2, 3 makes the fourth, of the ends, follow; without one of the three it does not.
        RelationNet net = new RelationNet(4);
        net.define(0, Nets.ALL_EQUAL);
        net.require(0, 0, 0, 1);
        net.require(0, 1, 1, 2);
        net.require(0, 2, 2, 3);
        for (int i = 0; i < 3; i++) {
            checks.due("redundant(" + i + "), a link of the chain", net.redundant(i), 0);
        }
        net.require(0, 3, 3, 0);
        for (int i = 0; i < 4; i++) {
            checks.due("redundant(" + i + "), a link of the ring", net.redundant(i), 1);
        }
        net.retract(1);
        for (int i = 0; i < 3; i++) {
            checks.due("redundant(" + i + "), the ring broken", net.redundant(i), 0);
        }
        checks.due("size()", net.size(), 3);
    }

    private static void assumedValuesKept() {
        RelationNet net = Nets.of(Nets.NOT_ALL_ZERO);
        checks.due("redundant(0), none assumed", net.redundant(0), 0);
        net.assume(1, 1);
        checks.due("redundant(0), an assumed value that meets it", net.redundant(0), 1);
        net.assume(1, 0);
        checks.due("redundant(0), an assumed value that doesn't", net.redundant(0), 0);
        net.assume(1, 2);
        checks.due("redundant(0), none assumed again", net.redundant(0), 0);
        checks.due("assume(1, 2)", net.assume(1, 2), 2);
    }

    private static void notRedundant() {
        for (int table = 0; table < 255; table++) {
            checks.due("redundant(0) of table " + table + " alone", Nets.of(table).redundant(0), 0);
        }
        RelationNet net = Nets.of(Nets.A_IS_ONE);
        net.require(0, 1, 1, 1);
        checks.due("redundant(0), each forbids on its own", net.redundant(0), 0);
        checks.due("redundant(1), each forbids on its own", net.redundant(1), 0);
    }

    private static void redundantNoPosition() {
        checks.due("redundant(0), empty list", new RelationNet(3).redundant(0), -1);
        checks.due("redundant(-1), empty list", new RelationNet(3).redundant(-1), -1);
        RelationNet net = Nets.of(Nets.EVERY);
        int[] off = {Nets.MIN, Nets.MIN + 1, -65536, -2, -1, 1, 2, 19, 20, 32, 65536, Nets.MAX - 1, Nets.MAX};
        for (int i : off) {
            checks.due("redundant(" + i + "), one in the list", net.redundant(i), -1);
        }
        checks.due("redundant(0), one in the list", net.redundant(0), 1);
        net.retract(0);
        checks.due("redundant(0), empty again", net.redundant(0), -1);
        RelationNet full = Nets.full(3);
        checks.due("redundant(19), list full", full.redundant(19), 1);
        checks.due("redundant(20), list full", full.redundant(20), -1);
        RelationNet none = Nets.of(Nets.NONE);
        checks.due("redundant(1) without a solution", none.redundant(1), -1);
    }
}
