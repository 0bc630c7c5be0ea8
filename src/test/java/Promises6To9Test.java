/** Promises 6 to 9, the list and the traits: each sentence has a test of its own; the answers are worked out by hand. */
public final class Promises6To9Test {
    private static final Checks checks = new Checks();

    public static void main(String[] args) {
        sizeAndTable();
        traits();
        netTraits();
        checks.end();
    }

    private static void sizeAndTable() {
        checks.sentence("Promise 6", "How many constraints the list holds.", Promises6To9Test::sizeFromEmptyToFull);
        checks.sentence("Promise 6", "How many constraints the list holds.", Promises6To9Test::sizeCountsConstraintsAlone);
        checks.sentence("Promise 7", "The table of relation r", Promises6To9Test::tableOfEachRelation);
        checks.sentence("Promise 7", "-1 if r is not in 0 .. 5", Promises6To9Test::tableOfNoRelation);
    }

    private static void traits() {
        String promise = "Promise 8";
        checks.sentence(promise, "The sum of those of the following that hold of relation r", Promises6To9Test::sumOfTraits);
        checks.sentence(promise, "(-1 if r is not in 0 .. 5)", Promises6To9Test::traitsOfNoRelation);
        checks.sentence(promise, "Operations on triples work place by place.", Promises6To9Test::placeByPlace);
        checks.sentence(promise, "HAS_ZERO (1): (0,0,0) belongs to it.", Promises6To9Test::hasZero);
        checks.sentence(promise, "HAS_ONE (2): (1,1,1) belongs to it.", Promises6To9Test::hasOne);
        checks.sentence(promise, "MEET_CLOSED (4): for any two triples of it, the triple of the smaller values at each place"
            + " belongs to it.", Promises6To9Test::meetClosed);
        checks.sentence(promise, "JOIN_CLOSED (8): for any two triples of it, the triple of the larger values at each place"
            + " belongs to it.", Promises6To9Test::joinClosed);
        checks.sentence(promise, "MAJORITY_CLOSED (16): for any three triples of it, the triple that has at each place the value"
            + " that at least two of them have belongs to it.", Promises6To9Test::majorityClosed);
        checks.sentence(promise, "PARITY_CLOSED (32): for any three triples of it, the triple that has at each place the remainder"
            + " by 2 of the sum of the three values belongs to it.", Promises6To9Test::parityClosed);
        checks.sentence(promise, "FLIP_CLOSED (64): for any triple of it, the triple with every value changed (0 to 1, 1 to 0)"
            + " belongs to it.", Promises6To9Test::flipClosed);
        checks.sentence(promise, "The two or three triples need not differ.", Promises6To9Test::triplesNeedNotDiffer);
        checks.sentence(promise, "The empty relation has the traits 4 + 8 + 16 + 32 + 64.", Promises6To9Test::traitsOfEmptyRelation);
    }

    private static void netTraits() {
        String promise = "Promise 9";
        checks.sentence(promise, "The sum of those of the seven traits that every relation has that is named by a constraint"
            + " of the list", Promises6To9Test::traitsOfAllNamed);
        checks.sentence(promise, "that is named by a constraint of the list", Promises6To9Test::unnamedPlayNoPart);
        checks.sentence(promise, "(127 if the list is empty)", Promises6To9Test::netTraitsOfEmptyList);
        checks.sentence(promise, "Assumed values play no part.", Promises6To9Test::assumedPlayNoPart);
    }

    private static void sizeFromEmptyToFull() {
        RelationNet net = new RelationNet(2);
        checks.due("size(), new object", net.size(), 0);
        for (int k = 1; k <= 20; k++) {
            net.require(k % 6, 0, 1, 0);
            checks.due("size() after require " + k, net.size(), k);
        }
        net.require(0, 0, 1, 0);
        checks.due("size() after a refused require", net.size(), 20);
        for (int k = 19; k >= 0; k--) {
            net.retract(k / 2);
            checks.due("size() after retract", net.size(), k);
        }
        net.retract(0);
        checks.due("size() after a refused retract", net.size(), 0);
    }

    private static void sizeCountsConstraintsAlone() {
        RelationNet net = new RelationNet(3);
        net.define(1, Nets.NONE);
        net.assume(0, 1);
        checks.due("size() after define and assume", net.size(), 0);
        net.require(0, 0, 0, 0);
        net.require(0, 0, 0, 0);
        checks.due("size() with the same constraint twice", net.size(), 2);
        net.require(1, 0, 0, 0);
        checks.due("size() with a constraint that forbids all", net.size(), 3);
    }

    private static void tableOfEachRelation() {
        int[] tables = {Nets.NONE, Nets.ALL_ZERO, Nets.ODD, Nets.ALL_ONE, Nets.NOT_ALL_ZERO, Nets.EVERY};
        RelationNet net = new RelationNet(2);
        for (int r = 0; r < 6; r++) {
            net.define(r, tables[r]);
        }
        for (int r = 0; r < 6; r++) {
            checks.due("table(" + r + ")", net.table(r), tables[r]);
            net.require(r, 0, 0, 0);
            checks.due("table(" + r + "), named", net.table(r), tables[r]);
        }
    }

    private static void tableOfNoRelation() {
        RelationNet net = new RelationNet(2);
        for (int r : Nets.NO_RELATIONS) {
            checks.due("table(" + r + ")", net.table(r), -1);
        }
        checks.due("table(0)", net.table(0), Nets.EVERY);
        checks.due("table(5)", net.table(5), Nets.EVERY);
    }

    private static int traitsOf(int table) {
        RelationNet net = new RelationNet(2);
        net.define(4, table);
        return net.traits(4);
    }

    private static void has(int table, int trait) {
        checks.due("trait " + trait + " of table " + table, traitsOf(table) & trait, trait);
    }

    private static void hasNot(int table, int trait) {
        checks.due("trait " + trait + " of table " + table, traitsOf(table) & trait, 0);
    }

    private static void sumOfTraits() {
        int[] tables = {Nets.ALL_ZERO, Nets.ALL_ONE, Nets.ALL_EQUAL, Nets.ONE_IN_THREE, Nets.NOT_ALL_ONE, Nets.NOT_ALL_ZERO,
            Nets.ODD, Nets.ONLY_B, Nets.A_IS_ONE, Nets.NOT_ALL_EQUAL, Nets.EVERY};
        int[] sums = {1 + 4 + 8 + 16 + 32, 2 + 4 + 8 + 16 + 32, 127, 0, 1 + 4, 2 + 8, 2 + 32, 4 + 8 + 16 + 32,
            2 + 4 + 8 + 16 + 32, 64, 127};
        RelationNet net = new RelationNet(2);
        for (int k = 0; k < tables.length; k++) {
            int r = k % 6;
            net.define(r, tables[k]);
            checks.due("traits(" + r + ") of table " + tables[k], net.traits(r), sums[k]);
        }
    }

    private static void traitsOfNoRelation() {
        RelationNet net = new RelationNet(2);
        for (int r : Nets.NO_RELATIONS) {
            checks.due("traits(" + r + ")", net.traits(r), -1);
        }
        checks.due("traits(0)", net.traits(0), 127);
        checks.due("traits(5)", net.traits(5), 127);
    }

    /** Two triples that differ at two places, for each two places; the third place has the value that both have. */
    private static void placeByPlace() {
        int[] one = {0b011, 0b011, 0b101};
        int[] other = {0b101, 0b110, 0b110};
        int[] shared = {0b001, 0b010, 0b100};
        for (int k = 0; k < 3; k++) {
            int two = (1 << one[k]) + (1 << other[k]);
            hasNot(two, RelationNet.MEET_CLOSED);
            has(two + (1 << shared[k]), RelationNet.MEET_CLOSED);
            hasNot(two + Nets.ALL_ZERO, RelationNet.MEET_CLOSED);
            hasNot(two, RelationNet.JOIN_CLOSED);
            has(two + Nets.ALL_ONE, RelationNet.JOIN_CLOSED);
            int flipped = (1 << (7 - one[k])) + (1 << (7 - other[k]));
            hasNot(flipped, RelationNet.JOIN_CLOSED);
            has(flipped + (1 << (7 - shared[k])), RelationNet.JOIN_CLOSED);
            hasNot(flipped + Nets.ALL_ONE, RelationNet.JOIN_CLOSED);
        }
    }

    private static void hasZero() {
        checks.due("HAS_ZERO", RelationNet.HAS_ZERO, 1);
        has(Nets.ALL_ZERO, 1);
        has(Nets.NOT_ALL_ONE, 1);
        has(Nets.EVERY, 1);
        hasNot(Nets.NONE, 1);
        hasNot(Nets.ALL_ONE, 1);
        hasNot(Nets.NOT_ALL_ZERO, 1);
    }

    private static void hasOne() {
        checks.due("HAS_ONE", RelationNet.HAS_ONE, 2);
        has(Nets.ALL_ONE, 2);
        has(Nets.NOT_ALL_ZERO, 2);
        has(Nets.EVERY, 2);
        hasNot(Nets.NONE, 2);
        hasNot(Nets.ALL_ZERO, 2);
        hasNot(Nets.NOT_ALL_ONE, 2);
    }

    private static void meetClosed() {
        checks.due("MEET_CLOSED", RelationNet.MEET_CLOSED, 4);
        // (0,1,1) and (1,0,1) meet in (0,0,1); (0,0,1), (0,1,0) and (1,0,0) two by two in (0,0,0).
        hasNot(8 + 32, 4);
        has(8 + 32 + 2, 4);
        hasNot(Nets.ONE_IN_THREE, 4);
        has(Nets.ONE_IN_THREE + 1, 4);
        has(Nets.NOT_ALL_ONE, 4);
        hasNot(Nets.NOT_ALL_ZERO, 4);
    }

    private static void joinClosed() {
        checks.due("JOIN_CLOSED", RelationNet.JOIN_CLOSED, 8);
        // (0,1,0) and (0,0,1) join in (0,1,1); (0,1,1), (1,0,1) and (1,1,0) two by two in (1,1,1).
        hasNot(4 + 2, 8);
        has(4 + 2 + 8, 8);
        hasNot(8 + 32 + 64, 8);
        has(8 + 32 + 64 + 128, 8);
        has(Nets.NOT_ALL_ZERO, 8);
        hasNot(Nets.NOT_ALL_ONE, 8);
    }

    private static void majorityClosed() {
        checks.due("MAJORITY_CLOSED", RelationNet.MAJORITY_CLOSED, 16);
        // Of (0,0,1), (0,1,0) and (1,0,0), two have 0 at each place; of (0,1,1), (1,0,1) and (1,1,0), two have 1.
        hasNot(Nets.ONE_IN_THREE, 16);
        has(Nets.ONE_IN_THREE + 1, 16);
        hasNot(Nets.ONE_IN_THREE + 128, 16);
        hasNot(8 + 32 + 64, 16);
        has(8 + 32 + 64 + 128, 16);
        hasNot(8 + 32 + 64 + 1, 16);
        // Of (0,0,0), (0,1,1) and (1,0,1), two have 0, 0 and 1.
        hasNot(1 + 8 + 32, 16);
        has(1 + 8 + 32 + 2, 16);
    }

    private static void parityClosed() {
        checks.due("PARITY_CLOSED", RelationNet.PARITY_CLOSED, 32);
        // The sums of (0,0,1), (0,1,0) and (1,0,0) are 1 at each place; those of (0,1,1), (1,0,1) and (1,1,0) are 2.
        hasNot(Nets.ONE_IN_THREE, 32);
        has(Nets.ONE_IN_THREE + 128, 32);
        hasNot(Nets.ONE_IN_THREE + 1, 32);
        hasNot(8 + 32 + 64, 32);
        has(8 + 32 + 64 + 1, 32);
        hasNot(8 + 32 + 64 + 128, 32);
        // The sums of (1,1,1), (1,1,0) and (1,0,1) are 3, 2 and 2.
        hasNot(128 + 64 + 32, 32);
        has(128 + 64 + 32 + 16, 32);
    }

    private static void flipClosed() {
        checks.due("FLIP_CLOSED", RelationNet.FLIP_CLOSED, 64);
        int[] flipped = {128, 64, 32, 16, 8, 4, 2, 1};
        for (int t = 0; t < 8; t++) {
            hasNot(1 << t, 64);
            has((1 << t) + flipped[t], 64);
            hasNot(Nets.EVERY - (1 << t), 64);
        }
    }

    /**
     * Taken twice, a triple meets and joins itself in itself; of three with one taken twice, the majority is that one and the
     * parity is the other. So a relation of one or two triples never lacks what three different ones would have to give.
     */
    private static void triplesNeedNotDiffer() {
        int three = RelationNet.MAJORITY_CLOSED + RelationNet.PARITY_CLOSED;
        for (int s = 0; s < 8; s++) {
            has(1 << s, RelationNet.MEET_CLOSED + RelationNet.JOIN_CLOSED + three);
            for (int t = 0; t < s; t++) {
                has((1 << s) + (1 << t), three);
            }
        }
    }

    private static void traitsOfEmptyRelation() {
        RelationNet net = new RelationNet(2);
        for (int r = 0; r < 6; r++) {
            net.define(r, Nets.NONE);
            checks.due("traits(" + r + ") of table 0", net.traits(r), 4 + 8 + 16 + 32 + 64);
        }
    }

    private static void traitsOfAllNamed() {
        RelationNet net = new RelationNet(4);
        net.define(0, Nets.NOT_ALL_ONE);
        net.define(1, Nets.ALL_ZERO);
        net.define(2, Nets.ONE_IN_THREE);
        net.define(3, Nets.NONE);
        net.require(1, 0, 1, 2);
        checks.due("netTraits() of table 1", net.netTraits(), 1 + 4 + 8 + 16 + 32);
        net.require(1, 3, 3, 3);
        checks.due("netTraits() of table 1, named twice", net.netTraits(), 1 + 4 + 8 + 16 + 32);
        net.require(0, 3, 3, 3);
        checks.due("netTraits() of tables 1 and 127", net.netTraits(), 1 + 4);
        net.require(3, 0, 0, 0);
        checks.due("netTraits() of tables 1, 127 and 0", net.netTraits(), 4);
        net.require(2, 0, 1, 3);
        checks.due("netTraits() of tables 1, 127, 0 and 22", net.netTraits(), 0);
        namedAtEachPosition();
    }

    private static void namedAtEachPosition() {
        for (int k = 0; k < 20; k++) {
            RelationNet net = new RelationNet(2);
            net.define(5, Nets.ODD);
            for (int i = 0; i < 20; i++) {
                net.require(i == k ? 5 : 0, 0, 1, 1);
            }
            checks.due("netTraits() with table 150 at position " + k, net.netTraits(), 2 + 32);
        }
    }

    private static void unnamedPlayNoPart() {
        RelationNet net = new RelationNet(3);
        net.define(1, Nets.ONE_IN_THREE);
        net.define(2, Nets.NONE);
        net.require(0, 0, 1, 2);
        checks.due("netTraits() of table 255, others defined", net.netTraits(), 127);
        net.require(1, 0, 1, 2);
        checks.due("netTraits() of tables 255 and 22", net.netTraits(), 0);
        net.retract(1);
        checks.due("netTraits() after table 22 is taken out", net.netTraits(), 127);
        net.require(2, 0, 1, 2);
        net.retract(0);
        checks.due("netTraits() of table 0", net.netTraits(), 124);
    }

    private static void netTraitsOfEmptyList() {
        RelationNet net = new RelationNet(3);
        checks.due("netTraits(), new object", net.netTraits(), 127);
        for (int r = 0; r < 6; r++) {
            net.define(r, Nets.ONE_IN_THREE);
        }
        checks.due("netTraits(), no relation has a trait", net.netTraits(), 127);
        net.require(0, 0, 1, 2);
        net.retract(0);
        checks.due("netTraits(), empty again", net.netTraits(), 127);
    }

    private static void assumedPlayNoPart() {
        RelationNet empty = new RelationNet(3);
        RelationNet net = Nets.of(Nets.ALL_EQUAL);
        RelationNet odd = Nets.of(Nets.ODD);
        for (int v = 0; v < 3; v++) {
            for (int value = 0; value < 3; value++) {
                empty.assume(v, value);
                net.assume(v, value);
                odd.assume(v, (value + v) % 3);
                String with = ", assumed " + value + " for " + v;
                checks.due("netTraits() of the empty list" + with, empty.netTraits(), 127);
                checks.due("netTraits() of table 129" + with, net.netTraits(), 127);
                checks.due("netTraits() of table 150" + with, odd.netTraits(), 2 + 32);
            }
        }
        net.assume(0, 0);
        net.assume(1, 1);
        checks.due("solutions() of table 129 with 0 and 1 assumed", net.solutions(), 0);
        checks.due("netTraits() of table 129 without a solution", net.netTraits(), 127);
    }
}
