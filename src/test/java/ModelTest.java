import java.util.ArrayList;
import java.util.Collections;
import java.util.Comparator;
import java.util.HashSet;
import java.util.List;
import java.util.Set;

/**
 * Compares MoveTree with a model that follows the document's terms word for word, over
 * many runs of calls. The runs come from a fixed rule, so that each run of the test is the same.
 */
public final class ModelTest {
    private static final int RUNS = 3000;
    private static final int CALLS = 512;

    private static long seed = 20261115L;

    public static void main(String[] args) {
        for (int run = 0; run < RUNS && Answers.areAllDue(); run++) {
            oneRun(run);
        }
        Answers.end();
    }

    private static void oneRun(int run) {
        MoveTree x = new MoveTree();
        Model model = new Model();
        // Runs differ in how often changes are made and spread, how many nodes are
        // used and how often arguments are wrong.
        int changes = 1 + below(40);
        int spreads = below(40);
        int nodes = 2 + below(9);
        int wrongOneIn = 5 + below(200);
        for (int i = 0; i < CALLS && Answers.areAllDue(); i++) {
            int draw = below(100);
            int kind = draw < changes ? below(2) : draw < changes + spreads ? 2 + below(2) : 4 + below(6);
            oneCall("run " + run + ", call " + (i + 1) + ": ", x, model, kind, nodes, wrongOneIn);
        }
    }

    private static void oneCall(String where, MoveTree x, Model m, int kind, int nodes, int wrongOneIn) {
        int r = argument(3, wrongOneIn);
        int s = argument(3, wrongOneIn);
        int n = argument(nodes, wrongOneIn);
        int p = argument(nodes, wrongOneIn);
        String rs = "(" + r + ", " + s + ")";
        String rn = "(" + r + ", " + n + ")";
        String rnp = "(" + r + ", " + n + ", " + p + ")";
        switch (kind) {
            case 0 -> Answers.due(where + "move" + rnp, x.move(r, n, p), m.move(r, n, p));
            case 1 -> Answers.due(where + "name" + rnp, x.name(r, n, p), m.name(r, n, p));
            case 2 -> Answers.due(where + "deliver" + rs, x.deliver(r, s), m.deliver(r, s));
            case 3 -> Answers.due(where + "sync" + rs, x.sync(r, s), m.sync(r, s));
            case 4 -> Answers.due(where + "parent" + rn, x.parent(r, n), m.parent(r, n));
            case 5 -> Answers.due(where + "label" + rn, x.label(r, n), m.label(r, n));
            case 6 -> Answers.due(where + "children" + rn, x.children(r, n), m.children(r, n));
            case 7 -> Answers.due(where + "depth" + rn, x.depth(r, n), m.depth(r, n));
            case 8 -> Answers.due(where + "skipped(" + r + ")", x.skipped(r), m.skipped(r));
            default -> Answers.due(where + "alike" + rs, x.alike(r, s), m.alike(r, s));
        }
    }

    private static int argument(int bound, int wrongOneIn) {
        if (below(wrongOneIn) != 0) {
            return below(bound);
        }
        int[] odd = {-1, 3, 10, 11, -10, 180, Integer.MIN_VALUE, Integer.MAX_VALUE};
        return odd[below(odd.length)];
    }

    private static int below(int bound) {
        seed = seed * 6364136223846793005L + 1442695040888963407L;
        return (int) ((seed >>> 33) % bound);
    }

    private record Change(int t, int origin, int number, boolean isMove, int node, int value) {
    }

    private static final class Shown {
        final int[] parent = {-1, -1, -1, -1, -1, -1, -1, -1, -1, -1};
        final int[] label = new int[10];
        final Set<Change> skipped = new HashSet<>();

        Shown(Set<Change> changes) {
            List<Change> ordered = new ArrayList<>(changes);
            Collections.sort(ordered, Comparator.comparingInt(Change::t).thenComparingInt(Change::origin));
            for (Change c : ordered) {
                if (!c.isMove()) {
                    label[c.node()] = c.value();
                } else if (pathFrom(c.value()).contains(c.node())) {
                    skipped.add(c);
                } else {
                    parent[c.node()] = c.value();
                }
            }
        }

        List<Integer> pathFrom(int node) {
            List<Integer> path = new ArrayList<>();
            for (int at = node; at != -1; at = parent[at]) {
                path.add(at);
            }
            return path;
        }
    }

    private static final class Model {
        private final List<Change> made = new ArrayList<>();
        private final List<Set<Change>> known = List.of(new HashSet<>(), new HashSet<>(), new HashSet<>());

        private static boolean within(int least, int value, int most) {
            return least <= value && value <= most;
        }

        private static boolean replica(int r) {
            return within(0, r, 2);
        }

        private Shown shown(int r) {
            return new Shown(known.get(r));
        }

        private Change make(int r, boolean isMove, int node, int value) {
            int t = 1 + known.get(r).stream().mapToInt(Change::t).max().orElse(0);
            int number = 1 + (int) made.stream().filter(c -> c.origin() == r).count();
            Change c = new Change(t, r, number, isMove, node, value);
            made.add(c);
            known.get(r).add(c);
            return c;
        }

        int move(int r, int node, int p) {
            if (!replica(r) || !within(1, node, 9) || !within(0, p, 9) || made.size() == 60) {
                return -1;
            }
            Change c = make(r, true, node, p);
            return shown(r).skipped.contains(c) ? 1 : 0;
        }

        int name(int r, int node, int label) {
            if (!replica(r) || !within(0, node, 9) || made.size() == 60) {
                return -1;
            }
            make(r, false, node, label);
            return 0;
        }

        int deliver(int from, int to) {
            if (!replica(from) || !replica(to)) {
                return -1;
            }
            Change next = made.stream()
                .filter(c -> c.origin() == from && !known.get(to).contains(c))
                .min(Comparator.comparingInt(Change::number)).orElse(null);
            if (next == null) {
                return -1;
            }
            known.get(to).add(next);
            return skipped(to);
        }

        int sync(int from, int to) {
            if (!replica(from) || !replica(to)) {
                return -1;
            }
            int before = known.get(to).size();
            known.get(to).addAll(new ArrayList<>(known.get(from)));
            return known.get(to).size() - before;
        }

        int parent(int r, int node) {
            return replica(r) && within(0, node, 9) ? shown(r).parent[node] : -1;
        }

        int label(int r, int node) {
            return replica(r) && within(0, node, 9) ? shown(r).label[node] : 0;
        }

        int children(int r, int node) {
            if (!replica(r) || !within(0, node, 9)) {
                return -1;
            }
            int count = 0;
            for (int p : shown(r).parent) {
                count += p == node ? 1 : 0;
            }
            return count;
        }

        int depth(int r, int node) {
            return replica(r) && within(0, node, 9) ? shown(r).pathFrom(node).size() - 1 : -1;
        }

        int skipped(int r) {
            return replica(r) ? shown(r).skipped.size() : -1;
        }

        int alike(int a, int b) {
            if (!replica(a) || !replica(b)) {
                return -1;
            }
            Shown atA = shown(a);
            Shown atB = shown(b);
            boolean same = java.util.Arrays.equals(atA.parent, atB.parent)
                && java.util.Arrays.equals(atA.label, atB.label);
            return same ? 1 : 0;
        }
    }
}
