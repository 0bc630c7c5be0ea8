/** Promises 10 to 14, the solutions and their numbers: each sentence has a test of its own; the answers are worked out by hand. */
public final class Promises10To14Test {
    // The triple (1,0,0) gives variable 0 the value 1, so its solution has the number 1.
    private static final int[] TABLES = {Nets.ALL_ZERO, Nets.ONLY_A, Nets.ONLY_B, Nets.ONLY_C, Nets.ALL_ONE,
        Nets.ONE_IN_THREE, Nets.NOT_ALL_EQUAL, Nets.NOT_ALL_ZERO, Nets.NOT_ALL_ONE, Nets.A_IS_ONE, Nets.EVERY};
    private static final int[] HOW_MANY = {1, 1, 1, 1, 1, 3, 6, 7, 7, 4, 8};
    private static final int[] LEAST = {0, 1, 2, 4, 7, 1, 1, 1, 0, 1, 0};
    private static final int[] GREATEST = {0, 1, 2, 4, 7, 4, 6, 7, 6, 7, 7};

    private static final Checks checks = new Checks();

    public static void main(String[] args) {
        checks.sentence("Promise 10", "1 if there is a solution", Promises10To14Test::satisfiable);
        checks.sentence("Promise 10", "otherwise 0", Promises10To14Test::notSatisfiable);
        checks.sentence("Promise 10", "1 if there is a solution, otherwise 0.", Promises10To14Test::satisfiableAfterChanges);
        checks.sentence("Promise 11", "How many solutions there are.", Promises10To14Test::howManySolutions);
        checks.sentence("Promise 11", "How many solutions there are.", Promises10To14Test::noSolutions);
        checks.sentence("Promise 11", "How many solutions there are.", Promises10To14Test::fromAllToOne);
        checks.sentence("Promise 12", "The least number of a solution", Promises10To14Test::least);
        checks.sentence("Promise 12", "-1 if there is none", Promises10To14Test::leastOfNone);
        checks.sentence("Promise 13", "The greatest number of a solution", Promises10To14Test::greatest);
        checks.sentence("Promise 13", "-1 if there is none", Promises10To14Test::greatestOfNone);
        checks.sentence("Promise 14", "The least number of a solution that is greater than after", Promises10To14Test::next);
        checks.sentence("Promise 14", "that is greater than after", Promises10To14Test::nextIsNotAfterItself);
        checks.sentence("Promise 14", "-1 if there is none.", Promises10To14Test::nextBehindTheLast);
        checks.sentence("Promise 14", "-1 if there is none.", Promises10To14Test::nextWithoutSolution);
        checks.sentence("Promise 14", "after may be any int.", Promises10To14Test::nextAfterAnyInt);
        checks.end();
    }

    private static void satisfiable() {
        for (int n = 2; n <= 8; n++) {
            checks.due("satisfiable(), empty list, n " + n, new RelationNet(n).satisfiable(), 1);
        }
        for (int table : TABLES) {
            checks.due("satisfiable() of table " + table, Nets.of(table).satisfiable(), 1);
        }
        checks.due("satisfiable() of a full list that forbids nothing", Nets.full(8).satisfiable(), 1);
        RelationNet last = new RelationNet(8);
        for (int v = 0; v < 8; v++) {
            last.assume(v, 1);
        }
        checks.due("satisfiable() with the solution 255 alone", last.satisfiable(), 1);
    }

    private static void notSatisfiable() {
        for (RelationNet net : Nets.withoutSolution()) {
            checks.due("satisfiable() without a solution", net.satisfiable(), 0);
        }
    }

    private static void satisfiableAfterChanges() {
        RelationNet net = Nets.of(Nets.ALL_ONE);
        net.assume(1, 0);
        checks.due("satisfiable() against an assumed value", net.satisfiable(), 0);
        net.assume(1, 1);
        checks.due("satisfiable() with an assumed value", net.satisfiable(), 1);
        net.define(1, Nets.ALL_ZERO);
        net.require(1, 2, 2, 2);
        checks.due("satisfiable() with two against each other", net.satisfiable(), 0);
        net.retract(0);
        checks.due("satisfiable() after retract", net.satisfiable(), 1);
    }

    private static void howManySolutions() {
        for (int k = 0; k < TABLES.length; k++) {
            checks.due("solutions() of table " + TABLES[k], Nets.of(TABLES[k]).solutions(), HOW_MANY[k]);
        }
        RelationNet net = new RelationNet(8);
        net.define(1, Nets.ODD);
        net.require(1, 0, 1, 2);
        checks.due("solutions() with one parity", net.solutions(), 128);
        net.require(1, 3, 4, 5);
        checks.due("solutions() with two parities", net.solutions(), 64);
        net.require(1, 0, 3, 6);
        checks.due("solutions() with three parities", net.solutions(), 32);
        net.assume(7, 0);
        checks.due("solutions() with an assumed value", net.solutions(), 16);
        net.require(1, 0, 1, 2);
        checks.due("solutions() with one said twice", net.solutions(), 16);
    }

    private static void noSolutions() {
        for (RelationNet net : Nets.withoutSolution()) {
            checks.due("solutions() without a solution", net.solutions(), 0);
        }
    }

    private static void fromAllToOne() {
        for (int n = 2; n <= 8; n++) {
            RelationNet net = new RelationNet(n);
            checks.due("solutions(), empty list, n " + n, net.solutions(), 1 << n);
            for (int v = 0; v < n; v++) {
                net.assume(v, v % 2);
                checks.due("solutions() with 0 .. " + v + " assumed, n " + n, net.solutions(), 1 << (n - 1 - v));
            }
        }
        checks.due("solutions() of a full list that forbids nothing", Nets.full(8).solutions(), 256);
    }

    private static void least() {
        for (int k = 0; k < TABLES.length; k++) {
            checks.due("least() of table " + TABLES[k], Nets.of(TABLES[k]).least(), LEAST[k]);
        }
        RelationNet net = new RelationNet(8);
        checks.due("least(), empty list", net.least(), 0);
        net.assume(7, 1);
        checks.due("least() with 7 one", net.least(), 128);
        for (int v = 0; v < 7; v++) {
            net.assume(v, 1);
        }
        checks.due("least() with all one", net.least(), 255);
    }

    private static void leastOfNone() {
        for (RelationNet net : Nets.withoutSolution()) {
            checks.due("least() without a solution", net.least(), -1);
        }
    }

    private static void greatest() {
        for (int k = 0; k < TABLES.length; k++) {
            checks.due("greatest() of table " + TABLES[k], Nets.of(TABLES[k]).greatest(), GREATEST[k]);
        }
        for (int n = 2; n <= 8; n++) {
            checks.due("greatest(), empty list, n " + n, new RelationNet(n).greatest(), (1 << n) - 1);
        }
        RelationNet net = new RelationNet(8);
        net.assume(4, 0);
        checks.due("greatest() with 4 zero", net.greatest(), 239);
        for (int v = 0; v < 8; v++) {
            net.assume(v, 0);
        }
        checks.due("greatest() with all zero", net.greatest(), 0);
    }

    private static void greatestOfNone() {
        for (RelationNet net : Nets.withoutSolution()) {
            checks.due("greatest() without a solution", net.greatest(), -1);
        }
    }

    private static void next() {
        RelationNet net = Nets.of(Nets.ONE_IN_THREE);
        int[] after = {-2, -1, 0, 1, 2, 3};
        int[] next = {1, 1, 1, 2, 4, 4};
        for (int k = 0; k < after.length; k++) {
            checks.due("next(" + after[k] + ") of table 22", net.next(after[k]), next[k]);
        }
        RelationNet all = new RelationNet(8);
        for (int number = -1; number < 255; number++) {
            checks.due("next(" + number + ") of all", all.next(number), number + 1);
        }
        all.assume(0, 1);
        all.assume(3, 0);
        checks.due("next(7) with 0 one and 3 zero", all.next(7), 17);
        checks.due("next(247) with 0 one and 3 zero", all.next(247), -1);
    }

    private static void nextIsNotAfterItself() {
        for (int number = 0; number < 8; number++) {
            RelationNet net = new RelationNet(3);
            for (int v = 0; v < 3; v++) {
                net.assume(v, (number >> v) & 1);
            }
            checks.due("next(" + (number - 1) + "), solution " + number + " alone", net.next(number - 1), number);
            checks.due("next(" + number + "), solution " + number + " alone", net.next(number), -1);
        }
    }

    private static void nextBehindTheLast() {
        for (int k = 0; k < TABLES.length; k++) {
            RelationNet net = Nets.of(TABLES[k]);
            for (int after = GREATEST[k]; after < 10; after++) {
                checks.due("next(" + after + ") of table " + TABLES[k], net.next(after), -1);
            }
        }
        for (int n = 2; n <= 8; n++) {
            RelationNet net = new RelationNet(n);
            checks.due("next of the greatest but one, n " + n, net.next((1 << n) - 2), (1 << n) - 1);
            checks.due("next of the greatest, n " + n, net.next((1 << n) - 1), -1);
            checks.due("next of one more, n " + n, net.next(1 << n), -1);
        }
    }

    private static void nextWithoutSolution() {
        int[] afters = {Nets.MIN, -2, -1, 0, 1, 7, 8, 254, 255, 256, Nets.MAX};
        for (RelationNet net : Nets.withoutSolution()) {
            for (int after : afters) {
                checks.due("next(" + after + ") without a solution", net.next(after), -1);
            }
        }
    }

    private static void nextAfterAnyInt() {
        int[] far = {Nets.MIN, Nets.MIN + 1, -65536, -257, -256, -255, -8, -7, -2, -1};
        int[] behind = {256, 257, 511, 512, 65535, 65536, Nets.MAX - 256, Nets.MAX - 1, Nets.MAX};
        RelationNet all = new RelationNet(8);
        RelationNet zero = Nets.of(Nets.ALL_ZERO);
        RelationNet some = Nets.of(Nets.ONE_IN_THREE);
        for (int after : far) {
            checks.due("next(" + after + ") of all", all.next(after), 0);
            checks.due("next(" + after + ") of table 1", zero.next(after), 0);
            checks.due("next(" + after + ") of table 22", some.next(after), 1);
        }
        for (int after : behind) {
            checks.due("next(" + after + ") of all", all.next(after), -1);
            checks.due("next(" + after + ") of table 1", zero.next(after), -1);
            checks.due("next(" + after + ") of table 22", some.next(after), -1);
        }
    }
}
