/** Rooted trees that are joined, cut, turned round, and asked about ways and parts. */
public final class LinkForest {
    private static final int NODES = 24;
    private static final int NONE = -1;
    private static final int REFUSED = -1;
    private static final int LINKED = 0;

    // Only link and turn write a node here, and both keep it free of rings:
    // that is why no walk upwards takes more than NODES steps.
    private final int[] above = new int[NODES];
    private final int[] values = new int[NODES];

    public LinkForest() {
        for (int node = 0; node < NODES; node++) {
            above[node] = NONE;
        }
    }

    public int link(int child, int parent) {
        if (!isNode(child) || !isNode(parent)) {
            return REFUSED;
        }
        // Once child is known to be a root, parent is in its tree only if parent's root is child.
        if (above[child] != NONE || topOf(parent) == child) {
            return REFUSED;
        }
        above[child] = parent;
        return LINKED;
    }

    public int cut(int node) {
        if (!isNode(node)) {
            return REFUSED;
        }
        int before = above[node];
        above[node] = NONE;
        return before;
    }

    public int turn(int node) {
        if (!isNode(node)) {
            return REFUSED;
        }
        int below = NONE;
        int at = node;
        for (int step = 0; step < NODES && at != NONE; step++) {
            int next = above[at];
            above[at] = below;
            below = at;
            at = next;
        }
        return below;
    }

    public int set(int node, int value) {
        if (!isNode(node)) {
            return 0;
        }
        int before = values[node];
        values[node] = value;
        return before;
    }

    public int paint(int node, int value) {
        if (!isNode(node)) {
            return REFUSED;
        }
        int painted = 0;
        int at = node;
        for (int step = 0; step < NODES && at != NONE; step++) {
            values[at] = value;
            painted++;
            at = above[at];
        }
        return painted;
    }

    public int root(int node) {
        if (!isNode(node)) {
            return REFUSED;
        }
        return topOf(node);
    }

    public int parent(int node) {
        if (!isNode(node)) {
            return REFUSED;
        }
        return above[node];
    }

    public int depth(int node) {
        if (!isNode(node)) {
            return REFUSED;
        }
        int links = 0;
        int at = above[node];
        for (int step = 0; step < NODES && at != NONE; step++) {
            links++;
            at = above[at];
        }
        return links;
    }

    public int sumUp(int node) {
        if (!isNode(node)) {
            return 0;
        }
        int sum = 0;
        int at = node;
        for (int step = 0; step < NODES && at != NONE; step++) {
            sum += values[at];
            at = above[at];
        }
        return sum;
    }

    public int leastUp(int node) {
        if (!isNode(node)) {
            return 0;
        }
        int least = values[node];
        int at = above[node];
        for (int step = 0; step < NODES && at != NONE; step++) {
            if (values[at] < least) {
                least = values[at];
            }
            at = above[at];
        }
        return least;
    }

    public int meet(int a, int b) {
        if (!isNode(a) || !isNode(b)) {
            return REFUSED;
        }
        int at = a;
        for (int step = 0; step < NODES && at != NONE; step++) {
            if (isOnWay(at, b)) {
                return at;
            }
            at = above[at];
        }
        return NONE;
    }

    public int sumPart(int node) {
        if (!isNode(node)) {
            return 0;
        }
        int sum = 0;
        for (int other = 0; other < NODES; other++) {
            if (isOnWay(node, other)) {
                sum += values[other];
            }
        }
        return sum;
    }

    private static boolean isNode(int number) {
        return number >= 0 && number < NODES;
    }

    private int topOf(int node) {
        int at = node;
        for (int step = 0; step < NODES && above[at] != NONE; step++) {
            at = above[at];
        }
        return at;
    }

    private boolean isOnWay(int sought, int start) {
        int at = start;
        for (int step = 0; step < NODES && at != NONE; step++) {
            if (at == sought) {
                return true;
            }
            at = above[at];
        }
        return false;
    }
}
