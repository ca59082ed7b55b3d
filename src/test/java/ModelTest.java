import java.util.ArrayList;
import java.util.List;

// Long mixed runs of calls against a second forest that is held in another way:
// links without a direction and a mark on each root, so that a turn only moves a mark.
public final class ModelTest {
    private static final int NODES = 24;
    private static final int RUNS = 1500;
    private static final int CALLS = 512;
    private static final int SHOWN = 20;
    private static final int[] EDGE_VALUES = {0, 1, -1, Integer.MAX_VALUE, Integer.MIN_VALUE, 1 << 30, -(1 << 30)};
    private static final int[] NO_NODES = {-1, 24, Integer.MIN_VALUE, Integer.MAX_VALUE, 25, -24};

    private static final class Model {
        private final boolean[][] joined = new boolean[NODES][NODES];
        private final boolean[] isRoot = new boolean[NODES];
        private final int[] values = new int[NODES];

        Model() {
            java.util.Arrays.fill(isRoot, true);
        }

        static boolean refuses(int node) {
            return node < 0 || node > 23;
        }

        // The trees are small: look from every root outwards until the node is met.
        List<Integer> way(int node) {
            for (int root = 0; root < NODES; root++) {
                if (isRoot[root]) {
                    List<Integer> found = down(root, -1, node);
                    if (found != null) {
                        return found;
                    }
                }
            }
            throw new IllegalStateException("the model lost node " + node);
        }

        private List<Integer> down(int at, int from, int sought) {
            if (at == sought) {
                List<Integer> way = new ArrayList<>();
                way.add(at);
                return way;
            }
            for (int next = 0; next < NODES; next++) {
                if (joined[at][next] && next != from) {
                    List<Integer> way = down(next, at, sought);
                    if (way != null) {
                        way.add(at);
                        return way;
                    }
                }
            }
            return null;
        }

        int root(int node) {
            if (refuses(node)) {
                return -1;
            }
            List<Integer> way = way(node);
            return way.get(way.size() - 1);
        }

        int parent(int node) {
            return refuses(node) || isRoot[node] ? -1 : way(node).get(1);
        }

        int depth(int node) {
            return refuses(node) ? -1 : way(node).size() - 1;
        }

        int link(int child, int parent) {
            if (refuses(child) || refuses(parent) || !isRoot[child] || root(parent) == root(child)) {
                return -1;
            }
            isRoot[child] = false;
            joined[child][parent] = true;
            joined[parent][child] = true;
            return 0;
        }

        int cut(int node) {
            int parent = parent(node);
            if (parent != -1) {
                isRoot[node] = true;
                joined[node][parent] = false;
                joined[parent][node] = false;
            }
            return parent;
        }

        int turn(int node) {
            int before = root(node);
            if (before != -1) {
                isRoot[before] = false;
                isRoot[node] = true;
            }
            return before;
        }

        int set(int node, int value) {
            if (refuses(node)) {
                return 0;
            }
            int before = values[node];
            values[node] = value;
            return before;
        }

        int paint(int node, int value) {
            if (refuses(node)) {
                return -1;
            }
            List<Integer> way = way(node);
            for (int on : way) {
                values[on] = value;
            }
            return way.size();
        }

        int sumUp(int node) {
            return refuses(node) ? 0 : way(node).stream().mapToInt(on -> values[on]).sum();
        }

        int leastUp(int node) {
            return refuses(node) ? 0 : way(node).stream().mapToInt(on -> values[on]).min().getAsInt();
        }

        int meet(int a, int b) {
            if (refuses(a) || refuses(b)) {
                return -1;
            }
            List<Integer> shared = way(a);
            shared.retainAll(way(b));
            return shared.isEmpty() ? -1 : shared.get(0);
        }

        int sumPart(int node) {
            int sum = 0;
            for (int other = 0; other < NODES && !refuses(node); other++) {
                sum += way(other).contains(node) ? values[other] : 0;
            }
            return sum;
        }
    }

    // A fixed row of numbers instead of a random source: every run of this test is the same.
    private static long seed = 20240229L;

    private static int pick(int bound) {
        seed = seed * 6364136223846793005L + 1442695040888963407L;
        return (int) ((seed >>> 33) % bound);
    }

    private static int pickNode() {
        return pick(40) == 0 ? NO_NODES[pick(NO_NODES.length)] : pick(NODES);
    }

    private static int pickValue() {
        return pick(4) == 0 ? EDGE_VALUES[pick(EDGE_VALUES.length)] : pick(201) - 100;
    }

    // A child that is any node is refused too often for deep trees to grow.
    private static int pickChild(Model model) {
        int node = pickNode();
        return Model.refuses(node) || pick(4) == 0 ? node : model.root(node);
    }

    private static int wrong = 0;

    private static void due(int run, int call, String text, int got, int want) {
        if (got != want) {
            wrong++;
            if (wrong <= SHOWN) {
                System.out.println("run " + run + ", call " + call + ": " + text + " answered " + got + ", due is " + want);
            }
        }
    }

    private static void oneCall(int run, int call, LinkForest x, Model m, int linking) {
        int a = pickNode();
        int b = pickNode();
        int v = pickValue();
        String one = "(" + a + ")";
        String two = "(" + a + ", " + b + ")";
        String put = "(" + a + ", " + v + ")";
        if (pick(10) < linking) {
            int child = pickChild(m);
            due(run, call, "link(" + child + ", " + b + ")", x.link(child, b), m.link(child, b));
            return;
        }
        switch (pick(12)) {
            case 0 -> due(run, call, "link" + two, x.link(a, b), m.link(a, b));
            case 1 -> due(run, call, "cut" + one, x.cut(a), m.cut(a));
            case 2 -> due(run, call, "turn" + one, x.turn(a), m.turn(a));
            case 3 -> due(run, call, "set" + put, x.set(a, v), m.set(a, v));
            case 4 -> due(run, call, "paint" + put, x.paint(a, v), m.paint(a, v));
            case 5 -> due(run, call, "root" + one, x.root(a), m.root(a));
            case 6 -> due(run, call, "parent" + one, x.parent(a), m.parent(a));
            case 7 -> due(run, call, "depth" + one, x.depth(a), m.depth(a));
            case 8 -> due(run, call, "sumUp" + one, x.sumUp(a), m.sumUp(a));
            case 9 -> due(run, call, "leastUp" + one, x.leastUp(a), m.leastUp(a));
            case 10 -> due(run, call, "meet" + two, x.meet(a, b), m.meet(a, b));
            default -> due(run, call, "sumPart" + one, x.sumPart(a), m.sumPart(a));
        }
    }

    // Mixed calls seldom grow the longest way, so some runs start with it.
    private static int linkInOneRow(int run, LinkForest x, Model m) {
        for (int node = 1; node < NODES; node++) {
            due(run, node, "link(" + node + ", " + (node - 1) + ")", x.link(node, node - 1), m.link(node, node - 1));
        }
        return NODES - 1;
    }

    public static void main(String[] args) {
        for (int run = 1; run <= RUNS; run++) {
            LinkForest x = new LinkForest();
            Model m = new Model();
            int made = run % 3 == 0 ? linkInOneRow(run, x, m) : 0;
            for (int call = made + 1; call <= CALLS; call++) {
                oneCall(run, call, x, m, run % 5);
            }
        }
        System.out.println(wrong == 0 ? "all answers are as due" : wrong + " answers are not as due");
        if (wrong != 0) {
            System.exit(1);
        }
    }
}
