import java.util.function.ToIntFunction;

/** The sentences under 'What it is' and 'Terms', each with a test of its own; the answers are worked out by hand. */
public final class TermsTest {
    private static final Checks checks = new Checks();

    public static void main(String[] args) {
        String is = "What it is";
        checks.sentence(is, "An object is used for at most 512 calls after it has been made", TermsTest::lastOf512Calls);
        checks.sentence(is, "at most 512 calls", TermsTest::sameQuestionUpToTheLastCall);
        checks.sentence(is, "at most 512 calls", TermsTest::sameChangeUpToTheLastCall);
        checks.sentence(is, "at most 512 calls", TermsTest::listFilledAndEmptiedUpToTheLastCall);

        String terms = "Terms";
        checks.sentence(terms, "Variables are numbered 0 .. n-1 and take the values 0 and 1.", TermsTest::variables);
        checks.sentence(terms, "the triple (a, b, c) has the number 4*a + 2*b + c (0 .. 7) and belongs to the relation"
            + " if the bit of that number is set in the table", TermsTest::numberOfTriple);
        checks.sentence(terms, "(a table is 0 .. 255)", TermsTest::leastAndGreatestTable);
        checks.sentence(terms, "There are six relations, numbered 0 .. 5; each has the table 255 at first.", TermsTest::sixRelations);
        checks.sentence(terms, "A constraint (r, x, y, z) demands that the triple (value of x, value of y, value of z)"
            + " belongs to relation r", TermsTest::demandOfConstraint);
        checks.sentence(terms, "with the table that r has now", TermsTest::tableOfNow);
        checks.sentence(terms, "The variables x, y, z of a constraint need not differ.", TermsTest::variablesOfConstraintNeedNotDiffer);
        checks.sentence(terms, "The constraints stand in a list at the positions 0 .. size()-1.", TermsTest::positions);
        checks.sentence(terms, "Besides, every variable may have an assumed value.", TermsTest::everyVariableMayBeAssumed);
        checks.sentence(terms, "A SOLUTION gives every variable 0 .. n-1 a value", TermsTest::solutionGivesEveryVariableAValue);
        checks.sentence(terms, "so that every constraint of the list is met", TermsTest::everyConstraintIsMet);
        checks.sentence(terms, "and every assumed value is kept", TermsTest::everyAssumedValueIsKept);
        checks.sentence(terms, "The NUMBER of a solution is the sum of value(v) * 2^v over all variables.", TermsTest::numberOfSolution);
        checks.sentence(terms, "No question changes anything.", TermsTest::questionsChangeNothing);
        checks.sentence(terms, "A refused call changes nothing.", TermsTest::refusedCallsChangeNothing);
        checks.sentence(terms, "A refused call changes nothing.", TermsTest::refusedCallChangesNoFullList);
        checks.end();
    }

    /** Three calls that leave the solution 4 alone: just one of three variables is 1, and it is variable 2. */
    private static RelationNet after3Calls() {
        RelationNet net = new RelationNet(3);
        checks.due("define(0, 22), call 1", net.define(0, Nets.ONE_IN_THREE), 3);
        checks.due("require(0, 0, 1, 2), call 2", net.require(0, 0, 1, 2), 0);
        checks.due("assume(2, 1), call 3", net.assume(2, 1), 2);
        return net;
    }

    private static RelationNet after511Calls() {
        RelationNet net = after3Calls();
        for (int k = 0; k < 254; k++) {
            checks.due("require(1, 0, 1, 2), call " + (4 + 2 * k), net.require(1, 0, 1, 2), 1);
            checks.due("retract(1), call " + (5 + 2 * k), net.retract(1), 1);
        }
        return net;
    }

    private static void lastOf512Calls() {
        last("define(1, 3)", net -> net.define(1, 3), 2);
        last("define(0, 3)", net -> net.define(0, 3), -3);
        last("require(1, 0, 0, 0)", net -> net.require(1, 0, 0, 0), 1);
        last("require(1, 0, 0, 3)", net -> net.require(1, 0, 0, 3), -2);
        last("retract(0)", net -> net.retract(0), 0);
        last("retract(1)", net -> net.retract(1), -1);
        last("assume(2, 0)", net -> net.assume(2, 0), 1);
        last("assume(3, 0)", net -> net.assume(3, 0), -1);
        eachQuestion(TermsTest::last);
    }

    private static void last(String call, ToIntFunction<RelationNet> ask, int want) {
        checks.due(call + ", call 512", ask.applyAsInt(after511Calls()), want);
    }

    private static void sameQuestionUpToTheLastCall() {
        eachQuestion(TermsTest::askUpToTheLastCall);
    }

    private static void askUpToTheLastCall(String call, ToIntFunction<RelationNet> ask, int want) {
        RelationNet net = after3Calls();
        for (int k = 4; k <= 512; k++) {
            checks.due(call + ", call " + k, ask.applyAsInt(net), want);
        }
    }

    private interface Asker {
        void ask(String call, ToIntFunction<RelationNet> ask, int want);
    }

    /** Each kind of question, with the answer that is due after after3Calls(). */
    private static void eachQuestion(Asker asker) {
        asker.ask("size()", net -> net.size(), 1);
        asker.ask("table(0)", net -> net.table(0), Nets.ONE_IN_THREE);
        asker.ask("traits(5)", net -> net.traits(5), 127);
        asker.ask("netTraits()", net -> net.netTraits(), 0);
        asker.ask("satisfiable()", net -> net.satisfiable(), 1);
        asker.ask("solutions()", net -> net.solutions(), 1);
        asker.ask("least()", net -> net.least(), 4);
        asker.ask("greatest()", net -> net.greatest(), 4);
        asker.ask("next(3)", net -> net.next(3), 4);
        asker.ask("possible(2, 1)", net -> net.possible(2, 1), 1);
        asker.ask("alwaysOne()", net -> net.alwaysOne(), 4);
        asker.ask("alwaysZero()", net -> net.alwaysZero(), 3);
        asker.ask("pairs(0, 2)", net -> net.pairs(0, 2), 2);
        asker.ask("entails(0, 2, 0, 1)", net -> net.entails(0, 2, 0, 1), 1);
        asker.ask("redundant(0)", net -> net.redundant(0), 0);
    }

    private static void sameChangeUpToTheLastCall() {
        RelationNet defined = new RelationNet(2);
        RelationNet required = new RelationNet(2);
        RelationNet assumed = new RelationNet(2);
        RelationNet empty = new RelationNet(2);
        for (int k = 1; k <= 512; k++) {
            int table = k % 2 == 0 ? Nets.EVERY : Nets.NONE;
            checks.due("define(3, " + table + "), call " + k, defined.define(3, table), k % 2 == 0 ? 8 : 0);
            checks.due("require(3, 0, 1, 1), call " + k, required.require(3, 0, 1, 1), k <= 20 ? k - 1 : -3);
            checks.due("assume(1, " + k % 3 + "), call " + k, assumed.assume(1, k % 3), k == 1 ? 2 : (k - 1) % 3);
            checks.due("retract(0), call " + k, empty.retract(0), -1);
        }
    }

    private static void listFilledAndEmptiedUpToTheLastCall() {
        RelationNet net = new RelationNet(2);
        for (int k = 0; k < 512; k++) {
            int step = k % 40;
            String call = ", call " + (k + 1);
            if (step < 20) {
                checks.due("require" + call, net.require(step % 6, 0, 1, 0), step);
            } else {
                checks.due("retract(0)" + call, net.retract(0), (step - 20) % 6);
            }
        }
    }

    private static void variables() {
        for (int n = 2; n <= 8; n++) {
            RelationNet net = new RelationNet(n);
            for (int v = 0; v < n; v++) {
                checks.due("n " + n + ", possible(" + v + ", 0)", net.possible(v, 0), 1);
                checks.due("n " + n + ", possible(" + v + ", 1)", net.possible(v, 1), 1);
            }
            checks.due("n " + n + ", possible(-1, 0)", net.possible(-1, 0), -1);
            checks.due("n " + n + ", possible(n, 0)", net.possible(n, 0), -1);
        }
    }

    private static void numberOfTriple() {
        int[] numbers = {0, 4, 2, 6, 1, 5, 3, 7};
        for (int t = 0; t < 8; t++) {
            RelationNet in = Nets.of(1 << t);
            checks.due("least() with triple " + t + " alone", in.least(), numbers[t]);
            checks.due("greatest() with triple " + t + " alone", in.greatest(), numbers[t]);
            RelationNet out = Nets.of(Nets.EVERY - (1 << t));
            checks.due("solutions() without triple " + t, out.solutions(), 7);
            checks.due("next() without triple " + t, out.next(numbers[t] - 1), t == 7 ? -1 : numbers[t] + 1);
        }
    }

    private static void leastAndGreatestTable() {
        RelationNet net = new RelationNet(3);
        checks.due("define(0, 0)", net.define(0, 0), 0);
        checks.due("table(0)", net.table(0), 0);
        checks.due("define(0, 255)", net.define(0, 255), 8);
        checks.due("table(0)", net.table(0), 255);
        checks.due("define(0, -1)", net.define(0, -1), -2);
        checks.due("define(0, 256)", net.define(0, 256), -2);
        checks.due("table(0)", net.table(0), 255);
    }

    private static void sixRelations() {
        RelationNet net = new RelationNet(3);
        for (int r = 0; r < 6; r++) {
            checks.due("table(" + r + ")", net.table(r), 255);
            checks.due("require(" + r + ", 0, 1, 2)", net.require(r, 0, 1, 2), r);
        }
        checks.due("solutions() with all six named", net.solutions(), 8);
        checks.due("table(-1)", net.table(-1), -1);
        checks.due("table(6)", net.table(6), -1);
        checks.due("require(6, 0, 1, 2)", net.require(6, 0, 1, 2), -1);
    }

    private static void demandOfConstraint() {
        int[] tables = {Nets.ONLY_A, Nets.ONLY_B, Nets.ONLY_C};
        int[] ones = {16, 1, 4};
        int[] zeros = {5, 20, 17};
        for (int p = 0; p < 3; p++) {
            RelationNet net = new RelationNet(5);
            net.define(3, tables[p]);
            net.require(3, 4, 0, 2);
            checks.due("alwaysOne() with (3, 4, 0, 2), place " + p, net.alwaysOne(), ones[p]);
            checks.due("alwaysZero() with (3, 4, 0, 2), place " + p, net.alwaysZero(), zeros[p]);
            checks.due("solutions() with (3, 4, 0, 2), place " + p, net.solutions(), 4);
        }
    }

    private static void tableOfNow() {
        RelationNet net = new RelationNet(3);
        net.define(2, Nets.ONLY_A);
        net.require(2, 0, 1, 2);
        checks.due("least() with table 16", net.least(), 1);
        net.retract(0);
        net.define(2, Nets.ONLY_B);
        net.require(2, 0, 1, 2);
        checks.due("least() with table 4, said after the constraint of table 16", net.least(), 2);
        checks.due("solutions() with table 4", net.solutions(), 1);
        net.retract(0);
        net.define(2, Nets.ONLY_C);
        net.define(2, Nets.EVERY);
        net.require(2, 0, 1, 2);
        checks.due("solutions() with table 255 after table 2", net.solutions(), 8);
        net.define(4, Nets.NONE);
        checks.due("entails(4, 0, 1, 2) with table 0", net.entails(4, 0, 1, 2), 0);
        net.define(4, Nets.EVERY);
        checks.due("entails(4, 0, 1, 2) with table 255", net.entails(4, 0, 1, 2), 1);
    }

    private static void variablesOfConstraintNeedNotDiffer() {
        RelationNet same = new RelationNet(2);
        same.define(0, Nets.NOT_ALL_ONE);
        checks.due("require(0, 1, 1, 1)", same.require(0, 1, 1, 1), 0);
        checks.due("alwaysZero() with (0, 1, 1, 1)", same.alwaysZero(), 2);
        checks.due("entails(0, 1, 1, 1)", same.entails(0, 1, 1, 1), 1);
        checks.due("entails(0, 0, 0, 0)", same.entails(0, 0, 0, 0), 0);
        // Of (x, x, z), (x, y, x) and (x, y, y), each alone leaves just one of the two values 1.
        twoTheSame(Nets.ONLY_C, 0, 0, 1, 2);
        twoTheSame(Nets.ONLY_B, 0, 1, 0, 2);
        twoTheSame(Nets.ONLY_A, 0, 1, 1, 1);
        // (1,0,0) asks x to be 1 and y to be 0, which one variable can't be.
        RelationNet never = new RelationNet(2);
        never.define(0, Nets.ONLY_A);
        checks.due("require(0, 0, 0, 1)", never.require(0, 0, 0, 1), 0);
        checks.due("solutions() of (1,0,0) with x = y", never.solutions(), 0);
    }

    private static void twoTheSame(int table, int x, int y, int z, int number) {
        RelationNet net = new RelationNet(2);
        net.define(1, table);
        String with = " with (1, " + x + ", " + y + ", " + z + ") of table " + table;
        checks.due("require" + with, net.require(1, x, y, z), 0);
        checks.due("solutions()" + with, net.solutions(), 1);
        checks.due("least()" + with, net.least(), number);
    }

    private static void positions() {
        RelationNet net = new RelationNet(3);
        for (int k = 0; k < 20; k++) {
            checks.due("redundant(" + k + "), " + k + " constraints", net.redundant(k), -1);
            checks.due("require " + k, net.require(k % 6, 0, 1, 2), k);
            checks.due("redundant(" + k + "), one more", net.redundant(k), 1);
            checks.due("redundant(0), one more", net.redundant(0), 1);
        }
        checks.due("redundant(-1)", net.redundant(-1), -1);
        checks.due("redundant(20)", net.redundant(20), -1);
    }

    private static void everyVariableMayBeAssumed() {
        RelationNet net = new RelationNet(8);
        for (int v = 0; v < 8; v++) {
            checks.due("assume(" + v + ", " + v % 2 + ")", net.assume(v, v % 2), 2);
        }
        checks.due("solutions() with all assumed", net.solutions(), 1);
        checks.due("least() with all assumed", net.least(), 2 + 8 + 32 + 128);
    }

    private static void solutionGivesEveryVariableAValue() {
        for (int n = 2; n <= 8; n++) {
            RelationNet net = new RelationNet(n);
            net.define(0, Nets.A_IS_ONE);
            net.require(0, 0, 0, 0);
            checks.due("n " + n + ", solutions() with variable 0 bound", net.solutions(), 1 << (n - 1));
            net.assume(n - 1, 0);
            checks.due("n " + n + ", solutions() with variable n-1 assumed too", net.solutions(), 1 << (n - 2));
        }
    }

    private static void everyConstraintIsMet() {
        for (int k = 0; k < 20; k++) {
            RelationNet net = new RelationNet(8);
            net.define(1, Nets.A_IS_ONE);
            for (int i = 0; i < 20; i++) {
                net.require(i == k ? 1 : 0, 6, 7, 7);
            }
            checks.due("solutions() with position " + k + " alone forbidding", net.solutions(), 128);
            checks.due("alwaysOne() with position " + k + " alone forbidding", net.alwaysOne(), 64);
        }
    }

    private static void everyAssumedValueIsKept() {
        for (int v = 0; v < 8; v++) {
            RelationNet net = new RelationNet(8);
            net.assume(v, 1);
            checks.due("least() with " + v + " one", net.least(), 1 << v);
            checks.due("solutions() with " + v + " one", net.solutions(), 128);
            net.assume(v, 0);
            checks.due("greatest() with " + v + " zero", net.greatest(), 255 - (1 << v));
            checks.due("solutions() with " + v + " zero", net.solutions(), 128);
        }
        RelationNet both = Nets.of(Nets.ONE_IN_THREE);
        both.assume(0, 0);
        checks.due("solutions() of table 22 with 0 zero", both.solutions(), 2);
        both.assume(1, 0);
        checks.due("solutions() of table 22 with 0 and 1 zero", both.solutions(), 1);
        both.assume(2, 0);
        checks.due("solutions() of table 22 with all zero", both.solutions(), 0);
    }

    private static void numberOfSolution() {
        for (int number = 0; number < 256; number++) {
            RelationNet net = new RelationNet(8);
            int rest = number;
            for (int v = 0; v < 8; v++) {
                net.assume(v, rest % 2);
                rest /= 2;
            }
            checks.due("least() with the values of " + number, net.least(), number);
            checks.due("greatest() with the values of " + number, net.greatest(), number);
        }
    }

    /** The solutions are 9, 10 and 12: just one of 0, 1, 2 is 1, not all of 1, 2, 3 are 1, and 3 is 1. */
    private static RelationNet someNet() {
        RelationNet net = new RelationNet(4);
        net.define(0, Nets.ONE_IN_THREE);
        net.define(1, Nets.NOT_ALL_ONE);
        net.define(2, Nets.ODD);
        net.require(0, 0, 1, 2);
        net.require(1, 1, 2, 3);
        net.assume(3, 1);
        return net;
    }

    /** Whether the net still stands as someNet() made it; asking this takes the net apart. */
    private static void isSomeNet(String after, RelationNet net) {
        checks.due("size() after " + after, net.size(), 2);
        int[] tables = {Nets.ONE_IN_THREE, Nets.NOT_ALL_ONE, Nets.ODD, Nets.EVERY, Nets.EVERY, Nets.EVERY};
        for (int r = 0; r < 6; r++) {
            checks.due("table(" + r + ") after " + after, net.table(r), tables[r]);
        }
        checks.due("solutions() after " + after, net.solutions(), 3);
        checks.due("least() after " + after, net.least(), 9);
        checks.due("next(9) after " + after, net.next(9), 10);
        checks.due("greatest() after " + after, net.greatest(), 12);
        checks.due("assume(3, 2) after " + after, net.assume(3, 2), 1);
        for (int v = 0; v < 3; v++) {
            checks.due("assume(" + v + ", 2) after " + after, net.assume(v, 2), 2);
        }
        checks.due("solutions() with none assumed after " + after, net.solutions(), 6);
        checks.due("retract(0) after " + after, net.retract(0), 0);
        checks.due("solutions() of the second after " + after, net.solutions(), 14);
        checks.due("greatest() of the second after " + after, net.greatest(), 13);
        checks.due("retract(0) once more after " + after, net.retract(0), 1);
        checks.due("greatest() of none after " + after, net.greatest(), 15);
    }

    private static void unchanged(String call, ToIntFunction<RelationNet> ask, int want) {
        RelationNet net = someNet();
        checks.due(call, ask.applyAsInt(net), want);
        checks.due(call + " once more", ask.applyAsInt(net), want);
        isSomeNet(call, net);
    }

    private static void questionsChangeNothing() {
        unchanged("size()", net -> net.size(), 2);
        unchanged("table(2)", net -> net.table(2), Nets.ODD);
        unchanged("traits(2)", net -> net.traits(2), 2 + 32);
        unchanged("netTraits()", net -> net.netTraits(), 0);
        unchanged("satisfiable()", net -> net.satisfiable(), 1);
        unchanged("solutions()", net -> net.solutions(), 3);
        unchanged("least()", net -> net.least(), 9);
        unchanged("greatest()", net -> net.greatest(), 12);
        unchanged("next(10)", net -> net.next(10), 12);
        unchanged("next(12)", net -> net.next(12), -1);
        unchanged("possible(0, 1)", net -> net.possible(0, 1), 1);
        unchanged("possible(3, 0)", net -> net.possible(3, 0), 0);
        unchanged("alwaysOne()", net -> net.alwaysOne(), 8);
        unchanged("alwaysZero()", net -> net.alwaysZero(), 0);
        unchanged("pairs(0, 3)", net -> net.pairs(0, 3), 2 + 8);
        unchanged("pairs(2, 2)", net -> net.pairs(2, 2), 1 + 8);
        unchanged("entails(2, 2, 1, 0)", net -> net.entails(2, 2, 1, 0), 1);
        unchanged("entails(2, 3, 3, 3)", net -> net.entails(2, 3, 3, 3), 1);
        unchanged("entails(1, 3, 3, 3)", net -> net.entails(1, 3, 3, 3), 0);
        unchanged("redundant(0)", net -> net.redundant(0), 0);
        unchanged("redundant(1)", net -> net.redundant(1), 1);
    }

    private static void refusedCallsChangeNothing() {
        unchanged("define(-1, 0)", net -> net.define(-1, 0), -1);
        unchanged("define(6, 0)", net -> net.define(6, 0), -1);
        unchanged("define(2, -1)", net -> net.define(2, -1), -2);
        unchanged("define(2, 256)", net -> net.define(2, 256), -2);
        unchanged("define(0, 0)", net -> net.define(0, 0), -3);
        unchanged("define(1, 255)", net -> net.define(1, 255), -3);
        unchanged("require(-1, 0, 0, 0)", net -> net.require(-1, 0, 0, 0), -1);
        unchanged("require(6, 0, 0, 0)", net -> net.require(6, 0, 0, 0), -1);
        unchanged("require(2, 4, 0, 0)", net -> net.require(2, 4, 0, 0), -2);
        unchanged("require(2, 0, -1, 0)", net -> net.require(2, 0, -1, 0), -2);
        unchanged("require(2, 0, 0, 4)", net -> net.require(2, 0, 0, 4), -2);
        unchanged("retract(-1)", net -> net.retract(-1), -1);
        unchanged("retract(2)", net -> net.retract(2), -1);
        unchanged("assume(-1, 0)", net -> net.assume(-1, 0), -1);
        unchanged("assume(4, 0)", net -> net.assume(4, 0), -1);
        unchanged("assume(3, 3)", net -> net.assume(3, 3), -2);
        unchanged("assume(3, -1)", net -> net.assume(3, -1), -2);
        unchanged("assume(0, 3)", net -> net.assume(0, 3), -2);
        unchanged("table(6)", net -> net.table(6), -1);
        unchanged("traits(-1)", net -> net.traits(-1), -1);
        unchanged("possible(4, 0)", net -> net.possible(4, 0), -1);
        unchanged("possible(0, 2)", net -> net.possible(0, 2), -2);
        unchanged("pairs(0, 4)", net -> net.pairs(0, 4), -1);
        unchanged("entails(6, 0, 0, 0)", net -> net.entails(6, 0, 0, 0), -1);
        unchanged("entails(1, 0, 0, 4)", net -> net.entails(1, 0, 0, 4), -2);
        unchanged("redundant(2)", net -> net.redundant(2), -1);
    }

    private static void refusedCallChangesNoFullList() {
        RelationNet net = Nets.full(3);
        checks.due("require(5, 2, 2, 2), list full", net.require(5, 2, 2, 2), -3);
        checks.due("retract(20), list full", net.retract(20), -1);
        checks.due("size()", net.size(), 20);
        for (int k = 0; k < 20; k++) {
            checks.due("retract(0), position " + k + " before", net.retract(0), k % 6);
        }
        checks.due("size()", net.size(), 0);
    }
}
