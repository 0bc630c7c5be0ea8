import java.util.ArrayList;
import java.util.List;

/** Tables and nets that several tests use. */
final class Nets {
    static final int MIN = Integer.MIN_VALUE;
    static final int MAX = Integer.MAX_VALUE;

    // Tables, by the triples (a, b, c) that belong to them.
    static final int NONE = 0;
    static final int ALL_ZERO = 1;
    static final int ONLY_C = 2;
    static final int ONLY_B = 4;
    static final int ONLY_A = 16;
    static final int ONE_IN_THREE = 22;
    static final int NOT_ALL_EQUAL = 126;
    static final int NOT_ALL_ONE = 127;
    static final int ALL_ONE = 128;
    static final int ALL_EQUAL = 129;
    static final int ODD = 150;
    static final int A_IS_ONE = 240;
    static final int NOT_ALL_ZERO = 254;
    static final int EVERY = 255;

    // 32 and 64 stand here because a shift by them is a shift by 0, and 65536 because its low bits are 0.
    static final int[] NO_RELATIONS = {MIN, MIN + 1, -65536, -6, -1, 6, 7, 8, 32, 64, 65536, MAX - 1, MAX};
    static final int[] NO_TABLES = {MIN, MIN + 1, -65536, -256, -255, -1, 256, 257, 511, 65536, MAX - 1, MAX};

    private Nets() {
    }

    /** Three variables and one constraint (0, 0, 1, 2): the triple (a, b, c) gives the solution of number a + 2*b + 4*c. */
    static RelationNet of(int table) {
        RelationNet net = new RelationNet(3);
        net.define(0, table);
        net.require(0, 0, 1, 2);
        return net;
    }

    /** Twenty constraints that forbid nothing; the one at position k names relation k % 6. */
    static RelationNet full(int vars) {
        RelationNet net = new RelationNet(vars);
        for (int k = 0; k < 20; k++) {
            net.require(k % 6, 0, 1, k % 2);
        }
        return net;
    }

    /** Numbers that name no variable of a net of n variables. */
    static int[] noVariables(int n) {
        return new int[] {MIN, MIN + 1, -65536, -n, -1, n, n + 1, 8, 9, 31, 32, 33, 64, 65536, MAX - 1, MAX};
    }

    /** Each has three variables or more, at least one constraint and no solution, each for a reason of its own. */
    static List<RelationNet> withoutSolution() {
        List<RelationNet> nets = new ArrayList<>();
        nets.add(of(NONE));
        RelationNet assumed = of(A_IS_ONE);
        assumed.assume(0, 0);
        nets.add(assumed);
        RelationNet assumedOne = of(ALL_ZERO);
        assumedOne.assume(2, 1);
        nets.add(assumedOne);
        RelationNet opposed = of(ALL_ONE);
        opposed.define(1, NOT_ALL_ONE);
        opposed.require(1, 1, 1, 1);
        nets.add(opposed);
        nets.add(withTwentiethAgainstAll());
        return nets;
    }

    private static RelationNet withTwentiethAgainstAll() {
        RelationNet net = new RelationNet(8);
        net.define(5, NONE);
        for (int k = 0; k < 19; k++) {
            net.require(k % 5, 5, 6, 7);
        }
        net.require(5, 7, 7, 7);
        return net;
    }
}
