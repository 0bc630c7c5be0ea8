/** The rules of LANGUAGE.md that runs of calls can show. */
public final class LanguageTest {
    private static final int[] ODD_ARGUMENTS = {Nets.MIN, Nets.MIN + 1, -256, -33, -1, 0, 1, 2, 5, 6, 7, 8, 19, 20, 31, 32, 255, 256,
        Nets.MAX - 1, Nets.MAX};

    private static final Checks checks = new Checks();

    public static void main(String[] args) {
        checks.sentence("Rule 7", "No call may ever throw or fail to end, for any arguments in any state", LanguageTest::emptyList);
        checks.sentence("Rule 7", "No call may ever throw or fail to end, for any arguments in any state", LanguageTest::fullList);
        checks.sentence("Rule 11", "the same calls always give the same answers", LanguageTest::objectsAreApart);
        checks.end();
    }

    private static void emptyList() {
        for (int a : ODD_ARGUMENTS) {
            for (int b : ODD_ARGUMENTS) {
                RelationNet net = new RelationNet(a);
                askAll(net, a, b);
                checks.due("size(), empty list, " + a + ", " + b, net.size(), 0);
            }
        }
    }

    private static void fullList() {
        for (int a : ODD_ARGUMENTS) {
            for (int b : ODD_ARGUMENTS) {
                RelationNet net = Nets.full(a);
                net.define(a, b);
                net.require(a, b, a, b);
                net.assume(a, b);
                askAll(net, a, b);
                net.retract(a);
                checks.due("size(), full list, " + a + ", " + b, net.size(), a >= 0 && a <= 19 ? 19 : 20);
            }
        }
    }

    private static void askAll(RelationNet net, int a, int b) {
        net.table(a);
        net.traits(a);
        net.netTraits();
        net.satisfiable();
        net.solutions();
        net.least();
        net.greatest();
        net.next(a);
        net.possible(a, b);
        net.alwaysOne();
        net.alwaysZero();
        net.pairs(a, b);
        net.entails(a, b, b, a);
        net.redundant(a);
    }

    private static void objectsAreApart() {
        RelationNet one = Nets.of(Nets.ONE_IN_THREE);
        RelationNet other = new RelationNet(8);
        other.define(0, Nets.NONE);
        other.require(0, 7, 7, 7);
        other.assume(0, 0);
        checks.due("size() of the one", one.size(), 1);
        checks.due("table(0) of the one", one.table(0), Nets.ONE_IN_THREE);
        checks.due("solutions() of the one", one.solutions(), 3);
        checks.due("assume(0, 2) of the one", one.assume(0, 2), 2);
        checks.due("retract(0) of the one", one.retract(0), 0);
        checks.due("size() of the other", other.size(), 1);
        checks.due("solutions() of the other", other.solutions(), 0);
        checks.due("assume(0, 2) of the other", other.assume(0, 2), 0);
    }
}
