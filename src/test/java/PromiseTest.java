// For each promise of the document: ordinary inputs, the edges it names, and wrong inputs.
// No object gets more than the 512 calls that the document allows.
public final class PromiseTest {
    private static final int NODES = 24;
    private static final int MIN = Integer.MIN_VALUE;
    private static final int MAX = Integer.MAX_VALUE;
    private static final int[] NO_NODES = {-1, 24, -2, 25, 31, 32, -24, 48, 256, -256, 65536, MIN, MIN + 1, MAX};

    private static int wrong = 0;

    private static void due(String call, long got, long want) {
        if (got != want) {
            wrong++;
            System.out.println(call + " answered " + got + ", due is " + want);
        }
    }

    // Own value without changing it: the way's sum less the sum of the way above.
    private static int valueOf(LinkForest x, int node) {
        int above = x.parent(node);
        return above == -1 ? x.sumUp(node) : x.sumUp(node) - x.sumUp(above);
    }

    private static void stateDue(String when, LinkForest x, int[] parents, int[] values) {
        for (int node = 0; node < NODES; node++) {
            due(when + ": parent(" + node + ")", x.parent(node), parents[node]);
            due(when + ": value of " + node, valueOf(x, node), values[node]);
        }
    }

    private static int[] allOf(int number) {
        int[] row = new int[NODES];
        java.util.Arrays.fill(row, number);
        return row;
    }

    // 0 is the root of 1, 2; 1 of 3, 4; 3 of 5; and 10 is the root of 11. The rest stand alone.
    private static final int[][] SAMPLE_LINKS = {{1, 0}, {2, 0}, {3, 1}, {4, 1}, {5, 3}, {11, 10}};

    private static LinkForest sample() {
        LinkForest x = new LinkForest();
        for (int[] pair : SAMPLE_LINKS) {
            x.link(pair[0], pair[1]);
        }
        for (int node = 0; node < NODES; node++) {
            x.set(node, sampleValue(node));
        }
        return x;
    }

    private static int sampleValue(int node) {
        return node % 2 == 0 ? 100 + node : -100 - node;
    }

    private static int[] sampleParents() {
        int[] parents = allOf(-1);
        for (int[] pair : SAMPLE_LINKS) {
            parents[pair[0]] = pair[1];
        }
        return parents;
    }

    private static int[] sampleValues() {
        int[] values = new int[NODES];
        for (int node = 0; node < NODES; node++) {
            values[node] = sampleValue(node);
        }
        return values;
    }

    private static void sampleUnchanged(String after, LinkForest x) {
        stateDue("after " + after, x, sampleParents(), sampleValues());
    }

    private static LinkForest chain() {
        LinkForest x = new LinkForest();
        for (int node = 1; node < NODES; node++) {
            x.link(node, node - 1);
        }
        return x;
    }

    private static void newObject() {
        stateDue("new", new LinkForest(), allOf(-1), allOf(0));
        LinkForest x = new LinkForest();
        for (int node = 0; node < NODES; node++) {
            due("new: root(" + node + ")", x.root(node), node);
            due("new: depth(" + node + ")", x.depth(node), 0);
            due("new: sumPart(" + node + ")", x.sumPart(node), 0);
            due("new: leastUp(" + node + ")", x.leastUp(node), 0);
            due("new: set(" + node + ", 1)", x.set(node, 1), 0);
        }
        LinkForest other = new LinkForest();
        x.link(1, 0);
        due("other object: parent(1)", other.parent(1), -1);
        due("other object: sumUp(1)", other.sumUp(1), 0);
    }

    private static void link() {
        LinkForest x = sample();
        due("link(0, 11)", x.link(0, 11), 0);
        int[] parents = sampleParents();
        parents[0] = 11;
        stateDue("link(0, 11)", x, parents, sampleValues());

        x = new LinkForest();
        due("link(23, 0)", x.link(23, 0), 0);
        due("link(22, 23)", x.link(22, 23), 0);
        due("link(0, 1)", x.link(0, 1), 0);
        due("root(22)", x.root(22), 1);

        linkRefused(0, 0);
        linkRefused(7, 7);
        linkRefused(0, 1);
        linkRefused(0, 5);
        linkRefused(10, 11);
        linkRefused(1, 1);
        linkRefused(1, 0);
        linkRefused(1, 5);
        linkRefused(1, 2);
        linkRefused(1, 10);
        linkRefused(5, 23);
        for (int no : NO_NODES) {
            linkRefused(no, 0);
            linkRefused(0, no);
            linkRefused(no, no);
        }
    }

    private static void linkRefused(int child, int parent) {
        LinkForest x = sample();
        String call = "link(" + child + ", " + parent + ")";
        due(call, x.link(child, parent), -1);
        sampleUnchanged(call, x);
    }

    private static void cut() {
        LinkForest x = sample();
        due("cut(1)", x.cut(1), 0);
        int[] parents = sampleParents();
        parents[1] = -1;
        stateDue("cut(1)", x, parents, sampleValues());
        due("cut(1) again", x.cut(1), -1);
        due("cut(5)", x.cut(5), 3);
        parents[5] = -1;
        stateDue("cut(5)", x, parents, sampleValues());
        due("link(1, 5)", x.link(1, 5), 0);
        due("root(3)", x.root(3), 5);

        cutRefused(0);
        cutRefused(23);
        for (int no : NO_NODES) {
            cutRefused(no);
        }
    }

    private static void cutRefused(int node) {
        LinkForest x = sample();
        due("cut(" + node + ")", x.cut(node), -1);
        sampleUnchanged("cut(" + node + ")", x);
    }

    private static void turn() {
        LinkForest x = sample();
        due("turn(5)", x.turn(5), 0);
        int[] parents = sampleParents();
        parents[5] = -1;
        parents[3] = 5;
        parents[1] = 3;
        parents[0] = 1;
        stateDue("turn(5)", x, parents, sampleValues());
        due("turn(0)", x.turn(0), 5);
        sampleUnchanged("turn(5), turn(0)", x);

        x = sample();
        due("turn(0), a root", x.turn(0), 0);
        due("turn(23), alone", x.turn(23), 23);
        due("turn(10), a root", x.turn(10), 10);
        sampleUnchanged("turn of roots", x);

        x = chain();
        due("chain: turn(23)", x.turn(23), 0);
        for (int node = 0; node < NODES; node++) {
            due("chain: parent(" + node + ")", x.parent(node), node == 23 ? -1 : node + 1);
        }
        due("chain: turn(12)", x.turn(12), 23);
        for (int node = 0; node < NODES; node++) {
            int want = node == 12 ? -1 : node < 12 ? node + 1 : node - 1;
            due("chain, middle: parent(" + node + ")", x.parent(node), want);
        }

        for (int no : NO_NODES) {
            x = sample();
            due("turn(" + no + ")", x.turn(no), -1);
            sampleUnchanged("turn(" + no + ")", x);
        }
    }

    private static void set() {
        LinkForest x = sample();
        due("set(3, 7)", x.set(3, 7), sampleValue(3));
        due("set(3, MIN)", x.set(3, MIN), 7);
        due("set(3, MAX)", x.set(3, MAX), MIN);
        due("set(23, 0)", x.set(23, 0), sampleValue(23));
        due("set(0, -1)", x.set(0, -1), sampleValue(0));
        int[] values = sampleValues();
        values[3] = MAX;
        values[23] = 0;
        values[0] = -1;
        stateDue("set", x, sampleParents(), values);

        for (int no : NO_NODES) {
            x = sample();
            due("set(" + no + ", 9)", x.set(no, 9), 0);
            sampleUnchanged("set(" + no + ", 9)", x);
        }
    }

    private static void paint() {
        LinkForest x = sample();
        due("paint(5, -3)", x.paint(5, -3), 4);
        int[] values = sampleValues();
        values[5] = -3;
        values[3] = -3;
        values[1] = -3;
        values[0] = -3;
        stateDue("paint(5, -3)", x, sampleParents(), values);
        due("paint(0, MIN)", x.paint(0, MIN), 1);
        values[0] = MIN;
        due("paint(23, MAX)", x.paint(23, MAX), 1);
        values[23] = MAX;
        stateDue("paint of roots", x, sampleParents(), values);

        x = chain();
        due("chain: paint(23, 6)", x.paint(23, 6), 24);
        for (int node = 0; node < NODES; node++) {
            due("chain: value of " + node, valueOf(x, node), 6);
        }

        for (int no : NO_NODES) {
            x = sample();
            due("paint(" + no + ", 9)", x.paint(no, 9), -1);
            sampleUnchanged("paint(" + no + ", 9)", x);
        }
    }

    private static void root() {
        LinkForest x = sample();
        int[] roots = {0, 0, 0, 0, 0, 0, 6, 7, 8, 9, 10, 10, 12, 13, 14, 15, 16, 17, 18, 19, 20, 21, 22, 23};
        for (int node = 0; node < NODES; node++) {
            due("root(" + node + ")", x.root(node), roots[node]);
        }
        x.link(0, 11);
        due("joined: root(5)", x.root(5), 10);
        x.cut(3);
        due("cut: root(5)", x.root(5), 3);
        due("cut: root(4)", x.root(4), 10);
        due("chain: root(23)", chain().root(23), 0);
        for (int no : NO_NODES) {
            due("root(" + no + ")", x.root(no), -1);
        }
    }

    private static void parent() {
        LinkForest x = sample();
        int[] parents = sampleParents();
        for (int node = 0; node < NODES; node++) {
            due("parent(" + node + ")", x.parent(node), parents[node]);
        }
        x.cut(4);
        due("cut: parent(4)", x.parent(4), -1);
        for (int no : NO_NODES) {
            due("parent(" + no + ")", x.parent(no), -1);
        }
    }

    private static void depth() {
        LinkForest x = sample();
        int[] depths = new int[NODES];
        depths[1] = 1;
        depths[2] = 1;
        depths[3] = 2;
        depths[4] = 2;
        depths[5] = 3;
        depths[11] = 1;
        for (int node = 0; node < NODES; node++) {
            due("depth(" + node + ")", x.depth(node), depths[node]);
        }
        LinkForest y = chain();
        for (int node = 0; node < NODES; node++) {
            due("chain: depth(" + node + ")", y.depth(node), node);
        }
        for (int no : NO_NODES) {
            due("depth(" + no + ")", x.depth(no), -1);
        }
    }

    private static void sumUp() {
        LinkForest x = sample();
        due("sumUp(0)", x.sumUp(0), 100);
        due("sumUp(2)", x.sumUp(2), 202);
        due("sumUp(4)", x.sumUp(4), 103);
        due("sumUp(5)", x.sumUp(5), -209);
        due("sumUp(11)", x.sumUp(11), -1);
        due("sumUp(23)", x.sumUp(23), -123);
        x.paint(5, MAX);
        due("wrap: sumUp(1)", x.sumUp(1), -2);
        due("wrap: sumUp(5)", x.sumUp(5), -4);
        x.paint(5, MIN);
        due("wrap: sumUp(1)", x.sumUp(1), 0);
        due("wrap: sumUp(3)", x.sumUp(3), MIN);
        LinkForest y = chain();
        for (int node = 0; node < NODES; node++) {
            y.set(node, 1 << node);
        }
        due("chain: sumUp(23)", y.sumUp(23), (1 << 24) - 1);
        due("chain: sumUp(12)", y.sumUp(12), (1 << 13) - 1);
        for (int no : NO_NODES) {
            due("sumUp(" + no + ")", x.sumUp(no), 0);
        }
    }

    private static void leastUp() {
        LinkForest x = sample();
        due("leastUp(0)", x.leastUp(0), 100);
        due("leastUp(2)", x.leastUp(2), 100);
        due("leastUp(4)", x.leastUp(4), -101);
        due("leastUp(5)", x.leastUp(5), -105);
        due("leastUp(22)", x.leastUp(22), 122);
        x.set(0, MAX);
        due("leastUp(0), greatest", x.leastUp(0), MAX);
        x.set(2, MIN);
        due("leastUp(2), least and greatest", x.leastUp(2), MIN);
        due("leastUp(0), below it is not on its way", x.leastUp(0), MAX);
        x.paint(5, 8);
        due("leastUp(5), all the same", x.leastUp(5), 8);

        LinkForest y = chain();
        y.paint(23, 3);
        y.set(0, 2);
        due("chain: leastUp(23), least at the root", y.leastUp(23), 2);
        y.set(23, 1);
        due("chain: leastUp(23), least at the node", y.leastUp(23), 1);
        due("chain: leastUp(22)", y.leastUp(22), 2);
        for (int no : NO_NODES) {
            due("leastUp(" + no + ")", x.leastUp(no), 0);
        }
    }

    private static void meet() {
        LinkForest x = sample();
        meetDue(x, 5, 4, 1);
        meetDue(x, 5, 2, 0);
        meetDue(x, 5, 3, 3);
        meetDue(x, 5, 0, 0);
        meetDue(x, 1, 2, 0);
        meetDue(x, 11, 10, 10);
        meetDue(x, 5, 11, -1);
        meetDue(x, 0, 10, -1);
        meetDue(x, 22, 23, -1);
        for (int node = 0; node < NODES; node++) {
            meetDue(x, node, node, node);
        }
        x.turn(5);
        meetDue(x, 2, 4, 1);
        meetDue(x, 0, 5, 5);
        meetDue(chain(), 23, 0, 0);
        meetDue(chain(), 23, 22, 22);
        for (int no : NO_NODES) {
            meetDue(x, no, 0, -1);
            meetDue(x, no, no, -1);
        }
    }

    private static void meetDue(LinkForest x, int a, int b, int want) {
        due("meet(" + a + ", " + b + ")", x.meet(a, b), want);
        due("meet(" + b + ", " + a + ")", x.meet(b, a), want);
    }

    private static void sumPart() {
        LinkForest x = sample();
        due("sumPart(0)", x.sumPart(0), 100 - 101 + 102 - 103 + 104 - 105);
        due("sumPart(1)", x.sumPart(1), -101 - 103 + 104 - 105);
        due("sumPart(3)", x.sumPart(3), -208);
        due("sumPart(5)", x.sumPart(5), -105);
        due("sumPart(10)", x.sumPart(10), -1);
        due("sumPart(23)", x.sumPart(23), -123);
        x.turn(3);
        due("turned: sumPart(3)", x.sumPart(3), -3);
        due("turned: sumPart(1)", x.sumPart(1), -101 + 100 + 102 + 104);
        due("turned: sumPart(0)", x.sumPart(0), 202);
        x.set(0, MAX);
        x.set(2, MAX);
        due("wrap: sumPart(0)", x.sumPart(0), -2);
        LinkForest y = chain();
        for (int node = 0; node < NODES; node++) {
            y.set(node, 1 << node);
        }
        due("chain: sumPart(0)", y.sumPart(0), (1 << 24) - 1);
        due("chain: sumPart(20)", y.sumPart(20), 15 << 20);
        for (int no : NO_NODES) {
            due("sumPart(" + no + ")", x.sumPart(no), 0);
        }
    }

    // What is only asked must leave everything as it was.
    private static void questionsChangeNothing() {
        int[] some = {0, 5, 23, -1, 24};
        LinkForest x = sample();
        for (int a : some) {
            x.root(a);
            x.parent(a);
            x.depth(a);
            x.sumUp(a);
            x.leastUp(a);
            x.sumPart(a);
            for (int b : some) {
                x.meet(a, b);
            }
        }
        sampleUnchanged("questions", x);
    }

    public static void main(String[] args) {
        newObject();
        link();
        cut();
        turn();
        set();
        paint();
        root();
        parent();
        depth();
        sumUp();
        leastUp();
        meet();
        sumPart();
        questionsChangeNothing();
        System.out.println(wrong == 0 ? "all answers are as due" : wrong + " answers are not as due");
        if (wrong != 0) {
            System.exit(1);
        }
    }
}
