import java.util.ArrayList;
import java.util.Arrays;
import java.util.HashSet;
import java.util.List;
import java.util.Set;

/**
 * The document's words over sets and lists: relations are sets of triples, solutions are lists of values.
 * It shares no shortcut with the class (no masks), so that both are unlikely to be wrong in the same way.
 */
final class Model {
    private final int n;
    private final List<Set<List<Integer>>> relations = new ArrayList<>();
    private final List<int[]> constraints = new ArrayList<>();
    private final List<Integer> assumed = new ArrayList<>();

    Model(int vars) {
        n = Math.max(2, Math.min(8, vars));
        for (int r = 0; r < 6; r++) {
            relations.add(relationOf(255));
        }
        for (int v = 0; v < n; v++) {
            assumed.add(2);
        }
    }

    int define(int r, int table) {
        if (r < 0 || r > 5) return -1;
        if (table < 0 || table > 255) return -2;
        for (int[] constraint : constraints) {
            if (constraint[0] == r) return -3;
        }
        relations.set(r, relationOf(table));
        return relations.get(r).size();
    }

    int require(int r, int x, int y, int z) {
        if (r < 0 || r > 5) return -1;
        if (!variable(x) || !variable(y) || !variable(z)) return -2;
        if (constraints.size() == 20) return -3;
        constraints.add(new int[] {r, x, y, z});
        return constraints.size() - 1;
    }

    int retract(int i) {
        if (i < 0 || i >= constraints.size()) return -1;
        return constraints.remove(i)[0];
    }

    int assume(int v, int value) {
        if (!variable(v)) return -1;
        if (value < 0 || value > 2) return -2;
        return assumed.set(v, value);
    }

    int size() {
        return constraints.size();
    }

    int table(int r) {
        if (r < 0 || r > 5) return -1;
        int sum = 0;
        for (List<Integer> triple : relations.get(r)) {
            sum += (int) Math.pow(2, 4 * triple.get(0) + 2 * triple.get(1) + triple.get(2));
        }
        return sum;
    }

    int traits(int r) {
        if (r < 0 || r > 5) return -1;
        Set<List<Integer>> relation = relations.get(r);
        boolean meet = true, join = true, majority = true, parity = true, flip = true;
        for (List<Integer> a : relation) {
            flip &= relation.contains(List.of(1 - a.get(0), 1 - a.get(1), 1 - a.get(2)));
            for (List<Integer> b : relation) {
                List<Integer> smaller = new ArrayList<>(), larger = new ArrayList<>();
                for (int p = 0; p < 3; p++) {
                    smaller.add(Math.min(a.get(p), b.get(p)));
                    larger.add(Math.max(a.get(p), b.get(p)));
                }
                meet &= relation.contains(smaller);
                join &= relation.contains(larger);
                for (List<Integer> c : relation) {
                    List<Integer> most = new ArrayList<>(), odd = new ArrayList<>();
                    for (int p = 0; p < 3; p++) {
                        int sum = a.get(p) + b.get(p) + c.get(p);
                        most.add(sum >= 2 ? 1 : 0);
                        odd.add(sum % 2);
                    }
                    majority &= relation.contains(most);
                    parity &= relation.contains(odd);
                }
            }
        }
        return (relation.contains(List.of(0, 0, 0)) ? 1 : 0) + (relation.contains(List.of(1, 1, 1)) ? 2 : 0)
            + (meet ? 4 : 0) + (join ? 8 : 0) + (majority ? 16 : 0) + (parity ? 32 : 0) + (flip ? 64 : 0);
    }

    int netTraits() {
        int sum = 0;
        for (int trait : new int[] {1, 2, 4, 8, 16, 32, 64}) {
            boolean all = true;
            for (int[] constraint : constraints) {
                all &= traits(constraint[0]) / trait % 2 == 1;
            }
            sum += all ? trait : 0;
        }
        return sum;
    }

    int satisfiable() {
        return numbers().isEmpty() ? 0 : 1;
    }

    int solutions() {
        return numbers().size();
    }

    int least() {
        return numbers().stream().min(Integer::compare).orElse(-1);
    }

    int greatest() {
        return numbers().stream().max(Integer::compare).orElse(-1);
    }

    int next(int after) {
        return numbers().stream().filter(number -> number > after).min(Integer::compare).orElse(-1);
    }

    int possible(int v, int value) {
        if (!variable(v)) return -1;
        if (value != 0 && value != 1) return -2;
        return found().stream().anyMatch(solution -> solution.get(v) == value) ? 1 : 0;
    }

    int alwaysOne() {
        return always(1);
    }

    int alwaysZero() {
        return always(0);
    }

    int pairs(int u, int v) {
        if (!variable(u) || !variable(v)) return -1;
        Set<List<Integer>> seen = new HashSet<>();
        for (List<Integer> solution : found()) {
            seen.add(List.of(solution.get(u), solution.get(v)));
        }
        return (seen.contains(List.of(0, 0)) ? 1 : 0) + (seen.contains(List.of(0, 1)) ? 2 : 0)
            + (seen.contains(List.of(1, 0)) ? 4 : 0) + (seen.contains(List.of(1, 1)) ? 8 : 0);
    }

    int entails(int r, int x, int y, int z) {
        if (r < 0 || r > 5) return -1;
        if (!variable(x) || !variable(y) || !variable(z)) return -2;
        for (List<Integer> solution : found()) {
            if (!relations.get(r).contains(List.of(solution.get(x), solution.get(y), solution.get(z)))) return 0;
        }
        return 1;
    }

    int redundant(int i) {
        if (i < 0 || i >= constraints.size()) return -1;
        List<List<Integer>> with = found();
        int[] out = constraints.remove(i);
        List<List<Integer>> without = found();
        constraints.add(i, out);
        return with.equals(without) ? 1 : 0;
    }

    private boolean variable(int v) {
        return v >= 0 && v < n;
    }

    private int always(int value) {
        List<List<Integer>> all = found();
        if (all.isEmpty()) return -1;
        int sum = 0;
        for (int v = 0; v < n; v++) {
            boolean same = true;
            for (List<Integer> solution : all) {
                same &= solution.get(v) == value;
            }
            sum += same ? (int) Math.pow(2, v) : 0;
        }
        return sum;
    }

    private List<Integer> numbers() {
        List<Integer> numbers = new ArrayList<>();
        for (List<Integer> solution : found()) {
            int sum = 0;
            for (int v = 0; v < n; v++) {
                sum += solution.get(v) * (int) Math.pow(2, v);
            }
            numbers.add(sum);
        }
        return numbers;
    }

    private List<List<Integer>> found() {
        List<List<Integer>> all = new ArrayList<>();
        all.add(List.of());
        for (int v = 0; v < n; v++) {
            List<List<Integer>> longer = new ArrayList<>();
            for (List<Integer> start : all) {
                for (int value = 0; value < 2; value++) {
                    if (assumed.get(v) == 2 || assumed.get(v) == value) {
                        List<Integer> more = new ArrayList<>(start);
                        more.add(value);
                        longer.add(more);
                    }
                }
            }
            all = longer;
        }
        all.removeIf(values -> !meetsAll(values));
        return all;
    }

    private boolean meetsAll(List<Integer> values) {
        for (int[] c : constraints) {
            if (!relations.get(c[0]).contains(List.of(values.get(c[1]), values.get(c[2]), values.get(c[3])))) return false;
        }
        return true;
    }

    private static Set<List<Integer>> relationOf(int table) {
        Set<List<Integer>> relation = new HashSet<>();
        int rest = table;
        for (List<Integer> triple : Arrays.asList(List.of(0, 0, 0), List.of(0, 0, 1), List.of(0, 1, 0), List.of(0, 1, 1),
                List.of(1, 0, 0), List.of(1, 0, 1), List.of(1, 1, 0), List.of(1, 1, 1))) {
            if (rest % 2 == 1) relation.add(triple);
            rest /= 2;
        }
        return relation;
    }
}
