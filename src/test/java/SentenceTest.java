import java.io.IOException;
import java.nio.file.Files;
import java.nio.file.Path;
import java.util.ArrayList;
import java.util.List;

// One test for each sentence of the document that names a boundary case; a broken one is told by its words.
// Each forest is made anew for nearly every call, so that no object gets more than its 512 calls.
public final class SentenceTest {
    private static final int NODES = 24;
    private static final int CALLS = 512;
    private static final int MIN = Integer.MIN_VALUE;
    private static final int MAX = Integer.MAX_VALUE;
    // Just outside, far outside, and numbers that fall back into range if bits or signs are lost.
    private static final int[] NO_NODES = {
        -1, 24, -2, 25, -23, -24, 31, 32, 47, 48, 255, 256, -256, 65536, 1 << 24, MIN, MIN + 1, MIN + 24, MAX, MAX - 1
    };
    private static final int[] EDGE_VALUES = {0, 1, -1, 23, 24, MIN, MIN + 1, MAX, MAX - 1, 65536, -65536};

    private interface Call {
        int on(LinkForest x);
    }

    private interface NodeCall {
        int on(LinkForest x, int node);
    }

    private interface Due {
        int at(int number);
    }

    private interface Maker {
        LinkForest make();
    }

    private static String document = "";
    private static String sentence = "";
    private static int sentences = 0;
    private static int wrong = 0;

    private static void holds(String where, String words, Runnable test) {
        sentence = where + ": \"" + words + "\"";
        sentences++;
        if (!sectionOf(where).contains(words)) {
            wrong++;
            System.out.println(sentence + " does not stand in the document");
        }
        test.run();
    }

    private static String sectionOf(String where) {
        for (String section : document.split("## ")) {
            if (section.startsWith(where + " ") || section.startsWith(where + ": ")) {
                return section;
            }
        }
        return "";
    }

    private static void due(String call, int got, int want) {
        if (got != want) {
            wrong++;
            System.out.println(sentence + ": " + call + " answered " + got + ", due is " + want);
        }
    }

    // Everything that can be asked of single nodes: 144 calls.
    private static List<Integer> seenIn(LinkForest x) {
        List<Integer> seen = new ArrayList<>();
        for (int node = 0; node < NODES; node++) {
            seen.add(x.parent(node));
            seen.add(x.root(node));
            seen.add(x.depth(node));
            seen.add(x.sumUp(node));
            seen.add(x.leastUp(node));
            seen.add(x.sumPart(node));
        }
        return seen;
    }

    private static void same(String after, LinkForest x, LinkForest want) {
        List<Integer> got = seenIn(x);
        List<Integer> due = seenIn(want);
        String[] asked = {"parent", "root", "depth", "sumUp", "leastUp", "sumPart"};
        for (int place = 0; place < got.size(); place++) {
            String question = asked[place % asked.length] + "(" + place / asked.length + ")";
            due("after " + after + ": " + question, got.get(place), due.get(place));
        }
    }

    private static void parentsDue(String after, LinkForest x, int... want) {
        for (int node = 0; node < NODES; node++) {
            due("after " + after + ": parent(" + node + ")", x.parent(node), node < want.length ? want[node] : -1);
        }
    }

    // No two sets of nodes have the same sum, and none has the sum -1, so that
    // an answer about wrong nodes is never taken for the right one or for a refusal.
    private static int firstValue(int node) {
        return node % 2 == 0 ? 100 << node : -(100 << node);
    }

    private static LinkForest withValues(LinkForest x) {
        for (int node = 0; node < NODES; node++) {
            x.set(node, firstValue(node));
        }
        return x;
    }

    private static LinkForest singles() {
        return withValues(new LinkForest());
    }

    // 0 over 1 and 2, 1 over 3 and 4, 3 over 5; 23 over 22 over 21; 6 to 20 stand alone.
    private static LinkForest grove() {
        LinkForest x = singles();
        x.link(1, 0);
        x.link(2, 0);
        x.link(3, 1);
        x.link(4, 1);
        x.link(5, 3);
        x.link(22, 23);
        x.link(21, 22);
        return x;
    }

    // All 24 nodes on one way: 0 is the root, 23 the lowest.
    private static LinkForest row() {
        LinkForest x = singles();
        for (int node = 1; node < NODES; node++) {
            x.link(node, node - 1);
        }
        return x;
    }

    // All 24 nodes in one tree that is as flat as can be: 23 is the root.
    private static LinkForest star() {
        LinkForest x = singles();
        for (int node = 0; node < NODES - 1; node++) {
            x.link(node, NODES - 1);
        }
        return x;
    }

    private static List<Maker> forests() {
        return List.of(LinkForest::new, SentenceTest::singles, SentenceTest::grove, SentenceTest::row, SentenceTest::star);
    }

    private static void changesNothing(String text, Maker forest, int want, Call call) {
        LinkForest x = forest.make();
        due(text, call.on(x), want);
        same(text, x, forest.make());
    }

    // The text has an n where the node number stands.
    private static void refused(String text, int want, NodeCall call) {
        for (Maker forest : forests()) {
            for (int no : NO_NODES) {
                changesNothing(text + ", n = " + no, forest, want, x -> call.on(x, no));
            }
        }
    }

    // ---- What it is

    // Pairs of calls that leave the row as it was: they only use calls up.
    private static List<NodeCall> pastimes() {
        return List.of(
            (x, step) -> x.turn(step % 2 == 0 ? 23 : 0),
            (x, step) -> step % 2 == 0 ? x.cut(12) : x.link(12, 11),
            (x, step) -> x.set(7, step % 2 == 0 ? 5 : firstValue(7)),
            (x, step) -> x.paint(0, firstValue(0)),
            (x, step) -> x.meet(23, 0),
            (x, step) -> x.sumPart(step % NODES),
            (x, step) -> x.link(step % 2 == 0 ? -1 : 0, 23),
            (x, step) -> x.turn(24));
    }

    private static LinkForest usedFor(int calls, NodeCall pastime) {
        LinkForest x = row();
        int made = NODES + NODES - 1;
        int odd = (calls - made) % 2;
        for (int step = 0; step < calls - made - odd; step++) {
            pastime.on(x, step);
        }
        if (odd == 1) {
            x.root(0);
        }
        return x;
    }

    private static void lastCallDue(String text, int want, Call call) {
        int kind = 0;
        for (NodeCall pastime : pastimes()) {
            due("call 512, after pastime " + kind + ": " + text, call.on(usedFor(CALLS - 1, pastime)), want);
            kind++;
        }
    }

    private static int sumOfFirst(int from, int to) {
        int sum = 0;
        for (int node = from; node <= to; node++) {
            sum += firstValue(node);
        }
        return sum;
    }

    private static void used512Times() {
        lastCallDue("link(0, 23)", -1, x -> x.link(0, 23));
        lastCallDue("cut(23)", 22, x -> x.cut(23));
        lastCallDue("turn(23)", 0, x -> x.turn(23));
        lastCallDue("set(23, 1)", firstValue(23), x -> x.set(23, 1));
        lastCallDue("paint(23, 1)", 24, x -> x.paint(23, 1));
        lastCallDue("root(23)", 0, x -> x.root(23));
        lastCallDue("parent(23)", 22, x -> x.parent(23));
        lastCallDue("depth(23)", 23, x -> x.depth(23));
        lastCallDue("sumUp(23)", sumOfFirst(0, 23), x -> x.sumUp(23));
        lastCallDue("leastUp(23)", firstValue(23), x -> x.leastUp(23));
        lastCallDue("meet(23, 20)", 20, x -> x.meet(23, 20));
        lastCallDue("sumPart(1)", sumOfFirst(1, 23), x -> x.sumPart(1));
        used512TimesForOneThing();
        changesInCall511();
    }

    // The answer that is due may hang on the number of the call, which counts from 1; the first call
    // makes node 23 unlike node 0, so that an answer for the wrong one of them shows.
    private static void allCallsDue(String text, Call first, Due want, NodeCall call) {
        LinkForest x = new LinkForest();
        due("call 1", first.on(x), 0);
        for (int number = 2; number <= CALLS; number++) {
            due("call " + number + ": " + text, call.on(x, number), want.at(number));
        }
    }

    private static void used512TimesForOneThing() {
        Call link = x -> x.link(23, 22);
        Call set = x -> x.set(23, 1);
        allCallsDue("link(23, 21)", link, number -> -1, (x, number) -> x.link(23, 21));
        allCallsDue("cut(1), at last cut(23)", link, number -> number < CALLS ? -1 : 22,
            (x, number) -> x.cut(number < CALLS ? 1 : 23));
        allCallsDue("turn(23) and turn(22)", link, number -> number % 2 == 0 ? 22 : 23,
            (x, number) -> x.turn(number % 2 == 0 ? 23 : 22));
        allCallsDue("set(23, number)", set, number -> number - 1, (x, number) -> x.set(23, number));
        allCallsDue("paint(23, number)", link, number -> 2, (x, number) -> x.paint(23, number));
        allCallsDue("root(23)", link, number -> 22, (x, number) -> x.root(23));
        allCallsDue("parent(23)", link, number -> 22, (x, number) -> x.parent(23));
        allCallsDue("depth(23)", link, number -> 1, (x, number) -> x.depth(23));
        allCallsDue("sumUp(23)", set, number -> 1, (x, number) -> x.sumUp(23));
        allCallsDue("leastUp(23)", set, number -> 1, (x, number) -> x.leastUp(23));
        allCallsDue("meet(23, 23)", link, number -> 23, (x, number) -> x.meet(23, 23));
        allCallsDue("sumPart(23)", set, number -> 1, (x, number) -> x.sumPart(23));
    }

    private static void changesInCall511() {
        for (NodeCall pastime : pastimes()) {
            LinkForest x = usedFor(CALLS - 3, pastime);
            due("call 510: cut(23)", x.cut(23), 22);
            due("call 511: link(23, 0)", x.link(23, 0), 0);
            due("call 512: parent(23)", x.parent(23), 0);
            x = usedFor(CALLS - 2, pastime);
            due("call 511: turn(23)", x.turn(23), 0);
            due("call 512: depth(0)", x.depth(0), 23);
            x = usedFor(CALLS - 2, pastime);
            due("call 511: paint(23, 9)", x.paint(23, 9), 24);
            due("call 512: sumPart(0)", x.sumPart(0), 216);
            x = usedFor(CALLS - 2, pastime);
            due("call 511: set(23, 8)", x.set(23, 8), firstValue(23));
            due("call 512: set(23, 7)", x.set(23, 7), 8);
        }
    }

    // ---- Terms

    private static void nodesAre0To23() {
        for (int node = 0; node < NODES; node++) {
            int other = (node + 1) % NODES;
            String at = ", node " + node;
            LinkForest x = singles();
            due("root" + at, x.root(node), node);
            due("depth" + at, x.depth(node), 0);
            due("sumUp" + at, x.sumUp(node), firstValue(node));
            due("leastUp" + at, x.leastUp(node), firstValue(node));
            due("sumPart" + at, x.sumPart(node), firstValue(node));
            due("meet" + at, x.meet(node, node), node);
            due("turn" + at, x.turn(node), node);
            due("set" + at, x.set(node, 5), firstValue(node));
            due("paint" + at, x.paint(node, 6), 1);
            due("link as child" + at, x.link(node, other), 0);
            due("parent" + at, x.parent(node), other);
            due("cut" + at, x.cut(node), other);
            due("link as parent" + at, x.link(other, node), 0);
            due("parent of the other" + at, x.parent(other), node);
        }
        for (int no : new int[] {-1, 24}) {
            due("root(" + no + ")", singles().root(no), -1);
            due("link(" + no + ", 1)", singles().link(no, 1), -1);
            due("link(1, " + no + ")", singles().link(1, no), -1);
        }
    }

    private static void valueIs0AtTheStart() {
        for (int node = 0; node < NODES; node++) {
            LinkForest x = new LinkForest();
            due("new: sumUp(" + node + ")", x.sumUp(node), 0);
            due("new: leastUp(" + node + ")", x.leastUp(node), 0);
            due("new: sumPart(" + node + ")", x.sumPart(node), 0);
            due("new: set(" + node + ", 4)", x.set(node, 4), 0);
        }
    }

    private static void valueIsAnyInt() {
        for (int value : EDGE_VALUES) {
            LinkForest x = grove();
            x.set(23, value);
            x.paint(6, value);
            for (int node : new int[] {23, 6}) {
                due("value " + value + ": sumUp(" + node + ")", x.sumUp(node), value);
                due("value " + value + ": leastUp(" + node + ")", x.leastUp(node), value);
                due("value " + value + ": set(" + node + ", 1)", x.set(node, 1), value);
            }
        }
    }

    private static void noParentAtTheStart() {
        parentsDue("new", new LinkForest());
        LinkForest x = new LinkForest();
        for (int node = 0; node < NODES; node++) {
            due("new: root(" + node + ")", x.root(node), node);
            due("new: depth(" + node + ")", x.depth(node), 0);
            due("new: cut(" + node + ")", x.cut(node), -1);
        }
    }

    private static void parentIsAnotherNode() {
        for (int node = 0; node < NODES; node++) {
            int self = node;
            changesNothing("link(" + self + ", " + self + ")", SentenceTest::singles, -1, x -> x.link(self, self));
        }
    }

    private static int endOfParents(LinkForest x, int node) {
        int at = node;
        int next = x.parent(at);
        for (int step = 0; step < NODES && next != -1; step++) {
            at = next;
            next = x.parent(at);
        }
        return at;
    }

    private static void rootIsFoundFromParentToParent() {
        for (Maker forest : forests()) {
            for (int node = 0; node < NODES; node++) {
                LinkForest x = forest.make();
                int end = endOfParents(x, node);
                due("root(" + node + ")", x.root(node), end);
                due("root(" + end + ")", x.root(end), end);
                due("parent(" + end + ")", x.parent(end), -1);
            }
        }
    }

    private static void wayHasBothEnds() {
        LinkForest x = grove();
        due("way of one node: sumUp(6)", x.sumUp(6), firstValue(6));
        due("way of a root with others below: sumUp(0)", x.sumUp(0), firstValue(0));
        due("way of two: sumUp(1)", x.sumUp(1), firstValue(1) + firstValue(0));
        due("way of three: sumUp(21)", x.sumUp(21), sumOfFirst(21, 23));
        due("way of one: paint(23, 1)", x.paint(23, 1), 1);
        due("way of two: paint(22, 1)", x.paint(22, 1), 2);
        due("way of all: sumUp(23)", row().sumUp(23), sumOfFirst(0, 23));
        due("way of all: paint(23, 1)", row().paint(23, 1), 24);
    }

    private static void depthIsLess1() {
        LinkForest x = row();
        for (int node = 0; node < NODES; node++) {
            due("depth(" + node + ")", x.depth(node), node);
            due("paint(" + node + ", 1)", x.paint(node, 1), node + 1);
        }
    }

    private static void partHasItselfToo() {
        due("part of one alone: sumPart(6)", grove().sumPart(6), firstValue(6));
        due("part of a lowest node: sumPart(5)", grove().sumPart(5), firstValue(5));
        due("part of two: sumPart(3)", grove().sumPart(3), firstValue(3) + firstValue(5));
        due("part without its siblings: sumPart(1)", grove().sumPart(1), sumOfFirst(3, 5) + firstValue(1));
        due("part of a root: sumPart(0)", grove().sumPart(0), sumOfFirst(0, 5));
        due("part of all, deep: sumPart(0)", row().sumPart(0), sumOfFirst(0, 23));
        due("part of all, flat: sumPart(23)", star().sumPart(23), sumOfFirst(0, 23));
        due("lowest of all: sumPart(23)", row().sumPart(23), firstValue(23));
    }

    private static LinkForest pair(int rootValue, int childValue) {
        LinkForest x = grove();
        x.set(23, rootValue);
        x.set(22, childValue);
        x.set(21, 0);
        return x;
    }

    private static void sumsWrap() {
        int[][] sums = {
            {MAX, 1, MIN}, {1, MAX, MIN}, {MIN, -1, MAX}, {-1, MIN, MAX}, {MAX, MAX, -2}, {MIN, MIN, 0}, {MAX, MIN, -1},
            {MAX, 0, MAX}, {MIN, 0, MIN}, {1 << 30, 1 << 30, MIN}
        };
        for (int[] sum : sums) {
            String of = " of " + sum[0] + " and " + sum[1];
            due("sumUp(21)" + of, pair(sum[0], sum[1]).sumUp(21), sum[2]);
            due("sumPart(23)" + of, pair(sum[0], sum[1]).sumPart(23), sum[2]);
        }
        LinkForest x = row();
        x.paint(23, MAX);
        due("24 times the greatest: sumUp(23)", x.sumUp(23), -24);
        due("24 times the greatest: sumPart(0)", x.sumPart(0), -24);
        x.paint(23, MIN);
        due("24 times the least: sumUp(23)", x.sumUp(23), 0);
        due("23 times the least: sumPart(1)", x.sumPart(1), MIN);
    }

    private static void outOfRangeIsRefused() {
        refused("link(n, 6)", -1, (x, n) -> x.link(n, 6));
        refused("link(6, n)", -1, (x, n) -> x.link(6, n));
        refused("link(n, n)", -1, (x, n) -> x.link(n, n));
        refused("link(n, -1)", -1, (x, n) -> x.link(n, -1));
        refused("link(24, n)", -1, (x, n) -> x.link(24, n));
        refused("parent(n)", -1, (x, n) -> x.parent(n));
        refused("cut(n)", -1, (x, n) -> x.cut(n));
        refused("meet(n, 0)", -1, (x, n) -> x.meet(n, 0));
        refused("meet(23, n)", -1, (x, n) -> x.meet(23, n));
        refused("meet(n, n)", -1, (x, n) -> x.meet(n, n));
        refused("meet(n, -1)", -1, (x, n) -> x.meet(n, -1));
        refused("meet(24, n)", -1, (x, n) -> x.meet(24, n));
    }

    // A node out of range is refused also where the value, by itself, would do no harm.
    private static void outOfRangeWithAnyValue() {
        for (int value : EDGE_VALUES) {
            for (int no : NO_NODES) {
                due("set(" + no + ", " + value + ")", grove().set(no, value), 0);
                due("paint(" + no + ", " + value + ")", grove().paint(no, value), -1);
            }
        }
    }

    // ---- Promise 1

    private static void objectsAreApart() {
        LinkForest first = new LinkForest();
        LinkForest second = new LinkForest();
        first.link(1, 0);
        first.paint(1, 5);
        same("calls on another object", second, new LinkForest());
        row().paint(23, 5);
        same("a forest made before", new LinkForest(), second);
        due("first object: parent(1)", first.parent(1), 0);
        due("first object: sumUp(1)", first.sumUp(1), 10);
    }

    // ---- Promise 2: link

    private static void linkGivesParent() {
        LinkForest x = grove();
        due("link of one alone under a root: link(6, 0)", x.link(6, 0), 0);
        due("link under the lowest: link(7, 5)", x.link(7, 5), 0);
        due("link of a tree into a tree: link(23, 7)", x.link(23, 7), 0);
        due("link of a greater tree under one alone: link(0, 8)", x.link(0, 8), 0);
        parentsDue("links", x, 8, 0, 0, 1, 1, 3, 0, 5, -1, -1, -1, -1, -1, -1, -1, -1, -1, -1, -1, -1, -1, 22, 23, 7);
        due("depth(21)", x.depth(21), 8);
        for (int node = 0; node < NODES; node++) {
            due("value of " + node + " stays: set", x.set(node, 0), firstValue(node));
        }
    }

    private static void linkOfNoRoot() {
        linkRefused(1, 6);
        linkRefused(1, 23);
        linkRefused(5, 21);
        linkRefused(21, 0);
        linkRefused(22, 6);
        changesNothing("again: link(1, 0)", SentenceTest::grove, -1, x -> x.link(1, 0));
    }

    private static void linkInsideOneTree() {
        linkRefused(0, 1);
        linkRefused(0, 5);
        linkRefused(23, 22);
        linkRefused(23, 21);
        linkRefused(6, 6);
        linkRefused(0, 0);
        changesNothing("ring of all: link(0, 23)", SentenceTest::row, -1, x -> x.link(0, 23));
    }

    private static void linkOfNoRootInsideOneTree() {
        linkRefused(1, 0);
        linkRefused(1, 2);
        linkRefused(1, 5);
        linkRefused(5, 4);
        linkRefused(5, 5);
        linkRefused(5, 0);
    }

    private static void linkRefused(int child, int parent) {
        changesNothing("link(" + child + ", " + parent + ")", SentenceTest::grove, -1, x -> x.link(child, parent));
    }

    private static void linkWhenAllIsOneTree() {
        for (Maker forest : List.<Maker>of(SentenceTest::row, SentenceTest::star)) {
            for (int child = 0; child < NODES; child++) {
                LinkForest x = forest.make();
                for (int parent = 0; parent < NODES; parent++) {
                    due("one tree: link(" + child + ", " + parent + ")", x.link(child, parent), -1);
                }
                same("refused links of " + child, x, forest.make());
            }
        }
    }

    private static void linkWorksAfterCutOrTurn() {
        LinkForest x = grove();
        x.cut(1);
        due("cut free: link(1, 2)", x.link(1, 2), 0);
        x.turn(5);
        due("no root any more: link(0, 6)", x.link(0, 6), -1);
        due("root now: link(5, 6)", x.link(5, 6), 0);
        due("root(0)", x.root(0), 6);
    }

    // ---- Promise 3: cut

    private static void cutAnswersTheParent() {
        LinkForest x = grove();
        due("parent 0: cut(1)", x.cut(1), 0);
        due("parent 23: cut(22)", x.cut(22), 23);
        due("lowest: cut(5)", x.cut(5), 3);
        parentsDue("cuts", x, -1, -1, 0, 1, 1, -1, -1, -1, -1, -1, -1, -1, -1, -1, -1, -1, -1, -1, -1, -1, -1, 22);
        due("what was below goes along: root(4)", x.root(4), 1);
        due("what was below goes along: root(21)", x.root(21), 22);
        for (int node = 0; node < NODES; node++) {
            due("value of " + node + " stays: set", x.set(node, 0), firstValue(node));
        }
        x = row();
        for (int node = 1; node < NODES; node++) {
            due("row: cut(" + node + ")", x.cut(node), node - 1);
        }
        same("all cuts", x, singles());
    }

    private static void cutOfARoot() {
        for (int root : new int[] {0, 6, 23}) {
            changesNothing("cut(" + root + ")", SentenceTest::grove, -1, x -> x.cut(root));
        }
        LinkForest x = grove();
        x.cut(1);
        due("the second time: cut(1)", x.cut(1), -1);
        x.turn(5);
        due("turned to the root: cut(5)", x.cut(5), -1);
        due("no root any more: cut(1)", x.cut(1), 3);
    }

    // ---- Promise 4: turn

    private static void turnTurnsTheWayRound() {
        LinkForest x = grove();
        x.turn(5);
        int[] want = {1, 3, 0, 5, 1, -1, -1, -1, -1, -1, -1, -1, -1, -1, -1, -1, -1, -1, -1, -1, -1, 22, 23, -1};
        parentsDue("turn(5)", x, want);
        for (int node = 0; node < NODES; node++) {
            due("value of " + node + " stays: set", x.set(node, 0), firstValue(node));
        }
        x = row();
        x.turn(23);
        for (int node = 0; node < NODES; node++) {
            due("longest way, turn(23): parent(" + node + ")", x.parent(node), node == 23 ? -1 : node + 1);
        }
        x.turn(0);
        same("turned there and back", x, row());
        x = row();
        x.turn(1);
        for (int node = 0; node < NODES; node++) {
            due("way of two, turn(1): parent(" + node + ")", x.parent(node), node == 1 ? -1 : node == 0 ? 1 : node - 1);
        }
        x = star();
        x.turn(0);
        for (int node = 0; node < NODES; node++) {
            due("star, turn(0): parent(" + node + ")", x.parent(node), node == 0 ? -1 : node == 23 ? 0 : 23);
        }
    }

    private static void turnAnswersTheRootBefore() {
        due("root 0: turn(5)", grove().turn(5), 0);
        due("root 0, way of two: turn(1)", grove().turn(1), 0);
        due("root 23: turn(21)", grove().turn(21), 23);
        due("longest way: turn(23)", row().turn(23), 0);
        LinkForest x = grove();
        x.turn(5);
        due("after turn(5): turn(2)", x.turn(2), 5);
        due("after turn(2): turn(0)", x.turn(0), 2);
    }

    private static void turnOfARoot() {
        for (int root : new int[] {0, 6, 23}) {
            changesNothing("turn(" + root + ")", SentenceTest::grove, root, x -> x.turn(root));
        }
        changesNothing("turn(0)", SentenceTest::row, 0, x -> x.turn(0));
        changesNothing("turn(23)", SentenceTest::star, 23, x -> x.turn(23));
    }

    // ---- Promises 5 and 6: set, paint

    private static void setAnswersTheValueBefore() {
        LinkForest x = grove();
        int before = firstValue(3);
        for (int value : EDGE_VALUES) {
            due("set(3, " + value + ")", x.set(3, value), before);
            due("the same again: set(3, " + value + ")", x.set(3, value), value);
            before = value;
        }
        x.set(3, firstValue(3));
        same("sets of node 3", x, grove());
        x.paint(5, 77);
        due("painted before: set(0, 1)", x.set(0, 1), 77);
        due("not painted: set(4, 1)", x.set(4, 1), firstValue(4));
    }

    private static void setIsForOneNode() {
        for (int set = 0; set < NODES; set++) {
            LinkForest x = row();
            x.set(set, 5);
            for (int node = 0; node < NODES; node++) {
                due("after set(" + set + ", 5): set(" + node + ", 1)", x.set(node, 1), node == set ? 5 : firstValue(node));
            }
        }
    }

    private static void paintAnswersHowMany() {
        due("root alone: paint(6, 5)", grove().paint(6, 5), 1);
        due("root with others below: paint(0, 5)", grove().paint(0, 5), 1);
        due("way of four: paint(5, 5)", grove().paint(5, 5), 4);
        due("longest way: paint(23, 5)", row().paint(23, 5), 24);
        due("values that are the same already: paint(23, 0)", allZero(row()).paint(23, 0), 24);
    }

    private static LinkForest allZero(LinkForest x) {
        for (int node = 0; node < NODES; node++) {
            x.set(node, 0);
        }
        return x;
    }

    private static void paintIsForTheWay() {
        for (int painted = 0; painted < NODES; painted++) {
            LinkForest x = row();
            x.paint(painted, -4);
            for (int node = 0; node < NODES; node++) {
                String call = "row, after paint(" + painted + ", -4): set(" + node + ", 1)";
                due(call, x.set(node, 1), node <= painted ? -4 : firstValue(node));
            }
        }
        paintedInGrove(5, 5, 3, 1, 0);
        paintedInGrove(3, 3, 1, 0);
        paintedInGrove(4, 4, 1, 0);
        paintedInGrove(1, 1, 0);
        paintedInGrove(2, 2, 0);
        paintedInGrove(0, 0);
        paintedInGrove(6, 6);
        paintedInGrove(21, 21, 22, 23);
    }

    private static void paintedInGrove(int painted, int... way) {
        LinkForest x = grove();
        x.paint(painted, MIN);
        for (int node = 0; node < NODES; node++) {
            int on = node;
            boolean isOnWay = java.util.Arrays.stream(way).anyMatch(each -> each == on);
            String call = "grove, after paint(" + painted + ", MIN): set(" + node + ", 1)";
            due(call, x.set(node, 1), isOnWay ? MIN : firstValue(node));
        }
    }

    // ---- Promises 7 to 13: the questions

    private static void rootOfARoot() {
        due("alone: root(6)", grove().root(6), 6);
        due("with others below: root(0)", grove().root(0), 0);
        due("with others below: root(23)", grove().root(23), 23);
        due("lowest: root(5)", grove().root(5), 0);
        due("longest way: root(23)", row().root(23), 0);
        due("flat: root(0)", star().root(0), 23);
    }

    private static void parentOfARoot() {
        due("alone: parent(6)", grove().parent(6), -1);
        due("with others below: parent(0)", grove().parent(0), -1);
        due("with others below: parent(23)", grove().parent(23), -1);
        due("parent is 0: parent(2)", grove().parent(2), 0);
        due("parent is 23: parent(22)", grove().parent(22), 23);
        LinkForest x = grove();
        x.cut(2);
        due("after cut(2): parent(2)", x.parent(2), -1);
        x.turn(5);
        due("after turn(5): parent(5)", x.parent(5), -1);
        due("after turn(5): parent(0)", x.parent(0), 1);
    }

    private static void depthFollowsTheForest() {
        LinkForest x = grove();
        due("alone: depth(6)", x.depth(6), 0);
        due("with others below: depth(23)", x.depth(23), 0);
        due("depth(5)", x.depth(5), 3);
        x.link(0, 21);
        due("after link(0, 21): depth(5)", x.depth(5), 6);
        x.turn(5);
        due("after turn(5): depth(5)", x.depth(5), 0);
        due("after turn(5): depth(23)", x.depth(23), 6);
        x.cut(0);
        due("after cut(0): depth(0)", x.depth(0), 0);
        due("after cut(0): depth(2)", x.depth(2), 1);
        due("longest way: depth(23)", row().depth(23), 23);
    }

    private static void sumUpFollowsTheForest() {
        LinkForest x = grove();
        due("branch: sumUp(4)", x.sumUp(4), firstValue(4) + firstValue(1) + firstValue(0));
        x.turn(4);
        due("after turn(4): sumUp(4)", x.sumUp(4), firstValue(4));
        due("after turn(4): sumUp(2)", x.sumUp(2), sumOfFirst(0, 2) + firstValue(4));
        x.set(0, 7);
        due("after set(0, 7): sumUp(2)", x.sumUp(2), 7 + sumOfFirst(1, 2) + firstValue(4));
        x.cut(0);
        due("after cut(0): sumUp(2)", x.sumUp(2), 7 + firstValue(2));
        x.paint(2, -7);
        due("after paint(2, -7): sumUp(2)", x.sumUp(2), -14);
    }

    private static void sumPartFollowsTheForest() {
        LinkForest x = grove();
        x.link(23, 5);
        due("after link(23, 5): sumPart(3)", x.sumPart(3), firstValue(3) + firstValue(5) + sumOfFirst(21, 23));
        x.turn(22);
        due("after turn(22): sumPart(22)", x.sumPart(22), sumOfFirst(0, 5) + sumOfFirst(21, 23));
        due("after turn(22): sumPart(23)", x.sumPart(23), sumOfFirst(0, 5) + firstValue(23));
        due("after turn(22): sumPart(21)", x.sumPart(21), firstValue(21));
        due("after turn(22): sumPart(0)", x.sumPart(0), firstValue(0) + firstValue(2));
        x.cut(3);
        due("after cut(3): sumPart(23)", x.sumPart(23), firstValue(23) + firstValue(5));
        x.paint(2, 9);
        due("after paint(2, 9): sumPart(3)", x.sumPart(3), 36 + firstValue(4));
    }

    private static void leastOfTheWay() {
        for (int value : EDGE_VALUES) {
            due("same on the whole way: leastUp(21), " + value, pairOf(value, value, value).leastUp(21), value);
        }
        due("at the node: leastUp(21)", pairOf(3, 2, 1).leastUp(21), 1);
        due("in the middle: leastUp(21)", pairOf(3, 1, 2).leastUp(21), 1);
        due("at the root: leastUp(21)", pairOf(1, 2, 3).leastUp(21), 1);
        due("less only below: leastUp(22)", pairOf(3, 2, 1).leastUp(22), 2);
        due("all above 0: leastUp(21)", pairOf(7, 8, 9).leastUp(21), 7);
        due("all below 0: leastUp(21)", pairOf(-7, -8, -9).leastUp(21), -9);
        due("least and greatest: leastUp(21)", pairOf(MIN, 0, MAX).leastUp(21), MIN);
        due("greatest and least: leastUp(21)", pairOf(MAX, 0, MIN).leastUp(21), MIN);
        due("difference that wraps: leastUp(22)", pairOf(MAX, -2, 0).leastUp(22), -2);
        due("greatest alone: leastUp(23)", pairOf(MAX, 0, 0).leastUp(23), MAX);
        LinkForest x = row();
        x.paint(23, 2);
        x.set(0, 1);
        due("root of the longest way: leastUp(23)", x.leastUp(23), 1);
    }

    private static LinkForest pairOf(int rootValue, int childValue, int lowestValue) {
        LinkForest x = pair(rootValue, childValue);
        x.set(21, lowestValue);
        return x;
    }

    private static void meetDue(Maker forest, int a, int b, int want) {
        due("meet(" + a + ", " + b + ")", forest.make().meet(a, b), want);
        due("meet(" + b + ", " + a + ")", forest.make().meet(b, a), want);
    }

    private static void firstMeeting() {
        Maker grove = SentenceTest::grove;
        for (int node = 0; node < NODES; node++) {
            meetDue(grove, node, node, node);
        }
        meetDue(grove, 5, 3, 3);
        meetDue(grove, 5, 1, 1);
        meetDue(grove, 5, 0, 0);
        meetDue(grove, 5, 4, 1);
        meetDue(grove, 5, 2, 0);
        meetDue(grove, 21, 23, 23);
        meetDue(SentenceTest::row, 23, 0, 0);
        meetDue(SentenceTest::row, 23, 22, 22);
        meetDue(SentenceTest::star, 0, 22, 23);
        LinkForest x = grove();
        x.turn(5);
        due("after turn(5): meet(2, 4)", x.meet(2, 4), 1);
        due("after turn(5): meet(4, 2)", x.meet(4, 2), 1);
    }

    private static void noMeeting() {
        Maker grove = SentenceTest::grove;
        meetDue(grove, 0, 23, -1);
        meetDue(grove, 5, 21, -1);
        meetDue(grove, 6, 7, -1);
        meetDue(grove, 6, 0, -1);
        LinkForest x = row();
        x.cut(12);
        due("after cut(12): meet(23, 11)", x.meet(23, 11), -1);
        due("after cut(12): meet(11, 23)", x.meet(11, 23), -1);
        for (int a = 0; a < NODES; a++) {
            x = new LinkForest();
            for (int b = 0; b < NODES; b++) {
                due("new: meet(" + a + ", " + b + ")", x.meet(a, b), a == b ? a : -1);
            }
        }
    }

    // Of questions the document says only what they answer: nothing may change by them.
    private static void questionsChangeNothing() {
        for (Maker forest : forests()) {
            for (int node = 0; node < NODES; node++) {
                LinkForest x = forest.make();
                seenIn(x);
                x.meet(node, 0);
                x.meet(23, node);
                same("all questions and meet of " + node, x, forest.make());
            }
        }
    }

    // ---- Which sentence is tested by what

    private static void termsHold() {
        holds("What it is", "An object is used for at most 512 calls after it has been made", SentenceTest::used512Times);
        holds("Terms", "NODES are 0 to 23.", SentenceTest::nodesAre0To23);
        holds("Terms", "Every node has a VALUE (an int", SentenceTest::valueIsAnyInt);
        holds("Terms", "0 at the start)", SentenceTest::valueIs0AtTheStart);
        holds("Terms", "and a PARENT (another node) or none", SentenceTest::parentIsAnotherNode);
        holds("Terms", "at the start none has a parent.", SentenceTest::noParentAtTheStart);
        holds("Terms", "which is found by going from parent to parent.", SentenceTest::rootIsFoundFromParentToParent);
        holds("Terms", "from it up to its root, both included", SentenceTest::wayHasBothEnds);
        holds("Terms", "its DEPTH is the number of nodes of its way less 1.", SentenceTest::depthIsLess1);
        holds("Terms", "all nodes that have it on their way (itself too).", SentenceTest::partHasItselfToo);
        holds("Terms", "All sums wrap as in Java.", SentenceTest::sumsWrap);
        holds("Terms", "Node numbers out of range are refused: the call answers -1", SentenceTest::outOfRangeIsRefused);
        holds("Terms", "(or as said)", SentenceTest::outOfRangeWithAnyValue);
    }

    private static void changesHold() {
        holds("Promise 1", "As said above.", SentenceTest::objectsAreApart);
        holds("Promise 2", "The root child gets the parent parent.", SentenceTest::linkGivesParent);
        holds("Promise 2", "-1, and changes nothing, also if child is no root", SentenceTest::linkOfNoRoot);
        holds("Promise 2", "or parent is in its tree.", SentenceTest::linkInsideOneTree);
        holds("Promise 2", "also if child is no root or parent is in its tree.", SentenceTest::linkOfNoRootInsideOneTree);
        holds("Promise 2", "-1, and changes nothing", SentenceTest::linkWhenAllIsOneTree);
        holds("Promise 2", "Answers 0", SentenceTest::linkWorksAfterCutOrTurn);
        holds("Promise 3", "Answers the parent that it had", SentenceTest::cutAnswersTheParent);
        holds("Promise 3", "-1 also if it had none.", SentenceTest::cutOfARoot);
        holds("Promise 4", "all parents along its way are turned round", SentenceTest::turnTurnsTheWayRound);
        holds("Promise 4", "Answers the root that the tree had before", SentenceTest::turnAnswersTheRootBefore);
        holds("Promise 4", "The node becomes the root of its tree", SentenceTest::turnOfARoot);
        holds("Promise 4", "or -1.", () -> refused("turn(n)", -1, (x, n) -> x.turn(n)));
        holds("Promise 5", "The node's value becomes value.", SentenceTest::setIsForOneNode);
        holds("Promise 5", "Answers the value before", SentenceTest::setAnswersTheValueBefore);
        holds("Promise 5", "0 if refused.", () -> refused("set(n, 5)", 0, (x, n) -> x.set(n, 5)));
        holds("Promise 6", "The values of all nodes on the node's way become value.", SentenceTest::paintIsForTheWay);
        holds("Promise 6", "Answers how many these are", SentenceTest::paintAnswersHowMany);
        holds("Promise 6", "or -1.", () -> refused("paint(n, 5)", -1, (x, n) -> x.paint(n, 5)));
    }

    private static void questionsHold() {
        holds("Promise 7", "The root of the node's tree", SentenceTest::rootOfARoot);
        holds("Promise 7", "or -1.", () -> refused("root(n)", -1, (x, n) -> x.root(n)));
        holds("Promise 8", "The node's parent; -1 also if it has none.", SentenceTest::parentOfARoot);
        holds("Promise 9", "The node's depth", SentenceTest::depthFollowsTheForest);
        holds("Promise 9", "or -1.", () -> refused("depth(n)", -1, (x, n) -> x.depth(n)));
        holds("Promise 10", "The sum of the values along the node's way", SentenceTest::sumUpFollowsTheForest);
        holds("Promise 10", "0 if refused.", () -> refused("sumUp(n)", 0, (x, n) -> x.sumUp(n)));
        holds("Promise 11", "The least value along the node's way", SentenceTest::leastOfTheWay);
        holds("Promise 11", "0 if refused.", () -> refused("leastUp(n)", 0, (x, n) -> x.leastUp(n)));
        holds("Promise 12", "The first node on a's way that is on b's way too", SentenceTest::firstMeeting);
        holds("Promise 12", "-1 also if there is none.", SentenceTest::noMeeting);
        holds("Promise 13", "The sum of the values of the node's part", SentenceTest::sumPartFollowsTheForest);
        holds("Promise 13", "0 if refused.", () -> refused("sumPart(n)", 0, (x, n) -> x.sumPart(n)));
        holds("Not promised", "Nothing is promised beyond the answers and state changes described above",
            SentenceTest::questionsChangeNothing);
    }

    public static void main(String[] args) throws IOException {
        document = Files.readString(Path.of("../shared/DOC.md")).replaceAll("\\s+", " ");
        termsHold();
        changesHold();
        questionsHold();
        System.out.println(wrong == 0 ? sentences + " sentences hold" : wrong + " answers are not as due");
        if (wrong != 0) {
            System.exit(1);
        }
    }
}
