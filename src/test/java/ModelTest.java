/** Long mixed runs, and every table, answered by the class and by the model; the runs are the same each time. */
public final class ModelTest {
    private static final int RUNS = 150;
    private static final int CALLS = 512;
    private static final int[] FAR = {Integer.MIN_VALUE, -1000, -2, -1, 8, 9, 20, 256, 1 << 20, Integer.MAX_VALUE};

    private static final Checks checks = new Checks();
    private static long state;

    public static void main(String[] args) {
        everyTable();
        for (int run = 0; run < RUNS && checks.wrong() < 20; run++) {
            mixedRun(run);
        }
        checks.end();
    }

    private static void everyTable() {
        for (int table = 0; table < 256; table++) {
            RelationNet net = new RelationNet(3);
            Model model = new Model(3);
            int r = table % 6;
            checks.due("define(" + r + ", " + table + ")", net.define(r, table), model.define(r, table));
            checks.due("table " + table, net.table(r), table);
            checks.due("traits of table " + table, net.traits(r), model.traits(r));
            net.require(r, 0, 1, 2);
            model.require(r, 0, 1, 2);
            checks.due("netTraits of table " + table, net.netTraits(), model.netTraits());
            for (int after = -2; after < 9; after++) {
                checks.due("next(" + after + ") of table " + table, net.next(after), model.next(after));
            }
        }
    }

    private static void mixedRun(int run) {
        state = 88172645463325252L + run * 7919L;
        int vars = pick(13) - 1;
        RelationNet net = new RelationNet(vars);
        Model model = new Model(vars);
        // Wide tables keep solutions alive in long lists; a run that grows fills the list.
        boolean wide = pick(2) == 0;
        int grow = pick(3);
        for (int call = 0; call < CALLS; call++) {
            String where = "run " + run + ", call " + call + ", vars " + vars + ": ";
            int kind = pick(24);
            if (kind < 5) {
                change(where, net, model, wide, kind == 4 ? grow : kind);
            } else {
                ask(where, net, model, kind);
            }
        }
    }

    private static void change(String where, RelationNet net, Model model, boolean wide, int kind) {
        int r = near(6);
        int x = near(8);
        int y = near(8);
        int z = near(8);
        int i = near(20);
        if (kind == 0) {
            int table = pick(20) == 0 ? FAR[pick(FAR.length)] : wide ? pick(256) | pick(256) | pick(256) : pick(256);
            checks.due(where + "define(" + r + ", " + table + ")", net.define(r, table), model.define(r, table));
        } else if (kind == 1) {
            checks.due(where + "require(" + r + ", " + x + ", " + y + ", " + z + ")", net.require(r, x, y, z), model.require(r, x, y, z));
        } else if (kind == 2) {
            checks.due(where + "retract(" + i + ")", net.retract(i), model.retract(i));
        } else {
            int value = pick(2) == 0 ? 2 : near(3);
            checks.due(where + "assume(" + x + ", " + value + ")", net.assume(x, value), model.assume(x, value));
        }
    }

    private static void ask(String where, RelationNet net, Model model, int kind) {
        int r = near(6);
        int x = near(8);
        int y = near(8);
        int z = near(8);
        int i = near(20);
        int value = near(2);
        int after = near(256);
        switch (kind) {
            case 5: checks.due(where + "size()", net.size(), model.size()); break;
            case 6: checks.due(where + "table(" + r + ")", net.table(r), model.table(r)); break;
            case 7: checks.due(where + "traits(" + r + ")", net.traits(r), model.traits(r)); break;
            case 8: checks.due(where + "netTraits()", net.netTraits(), model.netTraits()); break;
            case 9: checks.due(where + "satisfiable()", net.satisfiable(), model.satisfiable()); break;
            case 10: checks.due(where + "solutions()", net.solutions(), model.solutions()); break;
            case 11: checks.due(where + "least()", net.least(), model.least()); break;
            case 12: checks.due(where + "greatest()", net.greatest(), model.greatest()); break;
            case 13: case 14: checks.due(where + "next(" + after + ")", net.next(after), model.next(after)); break;
            case 15: checks.due(where + "possible(" + x + ", " + value + ")", net.possible(x, value), model.possible(x, value)); break;
            case 16: checks.due(where + "alwaysOne()", net.alwaysOne(), model.alwaysOne()); break;
            case 17: checks.due(where + "alwaysZero()", net.alwaysZero(), model.alwaysZero()); break;
            case 18: case 19: checks.due(where + "pairs(" + x + ", " + y + ")", net.pairs(x, y), model.pairs(x, y)); break;
            case 20: case 21:
                checks.due(where + "entails(" + r + ", " + x + ", " + y + ", " + z + ")",
                    net.entails(r, x, y, z), model.entails(r, x, y, z));
                break;
            default: checks.due(where + "redundant(" + i + ")", net.redundant(i), model.redundant(i)); break;
        }
    }

    /** Mostly 0 .. bound-1, now and then something far off. */
    private static int near(int bound) {
        return pick(25) == 0 ? FAR[pick(FAR.length)] : pick(bound);
    }

    private static int pick(int bound) {
        state ^= state << 13;
        state ^= state >>> 7;
        state ^= state << 17;
        return (int) Long.remainderUnsigned(state >>> 11, bound);
    }
}
