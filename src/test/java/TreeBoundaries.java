import java.util.zip.CRC32;

/** The tree and what is told of its nodes: promises 8 to 23. */
final class TreeBoundaries {
    private static final int MIN = Samples.MIN;
    private static final int MAX = Samples.MAX;

    private final Sentences s;

    TreeBoundaries(Sentences s) {
        this.s = s;
    }

    void test() {
        nodes();
        newLeaves();
        recolouring();
        turning();
        levels();
        sizeAndNodeCount();
        height();
        rebuildTotals();
        state();
        lowEnd();
        highEnd();
        weight();
        parent();
        child();
        isRed();
        subtreeSize();
        subtreeHigh();
        subtreeWeight();
        digest();
        digestBytes();
    }

    private interface ById {
        Object of(IntervalTree x, int id);
    }

    /** Points with these low ends, in this order, with the ids 0, 1, .. */
    private static IntervalTree lows(int... lows) {
        IntervalTree x = new IntervalTree();
        for (int low : lows) {
            x.insert(low, low, 0);
        }
        return x;
    }

    private static String shapeOf(int... lows) {
        return Samples.shape(lows(lows));
    }

    /** The low ends, high ends and ids of a subtree from left to right. */
    private static String inOrder(IntervalTree x, int id) {
        if (id < 0) {
            return "";
        }
        return inOrder(x, x.child(id, false)) + x.low(id) + ":" + x.high(id) + ":" + id + " "
                + inOrder(x, x.child(id, true));
    }

    private void nodes() {
        s.in("Tree");
        s.says("There is one node for each interval in the tree.");
        IntervalTree x = Samples.points(3);
        s.due("inserted", 3, () -> x.nodeCount());
        x.insert(1, 1, 0);
        s.due("an equal one has a node of its own", 4, () -> x.nodeCount());
        x.remove(3);
        s.due("removed", 4, () -> x.nodeCount());
        s.due("all are there", "0:0:0 1:1:1 1:1:3 2:2:2 ", () -> inOrder(x, 1));
        x.rebuild();
        s.due("gone", 3, () -> x.nodeCount());
        s.due("the others are there", "0:0:0 1:1:1 2:2:2 ", () -> inOrder(x, 1));

        s.says("The keys in the left subtree of a node are less than its key, those in the right subtree are greater.");
        IntervalTree y = Samples.of(Samples.row(5, 7, 0), Samples.row(5, 6, 0), Samples.row(5, 8, 0),
                Samples.row(5, 7, 0), Samples.row(4, 1000, 0), Samples.row(6, 6, 0), Samples.row(-1000, 1000, 0));
        s.due("in order", "-1000:1000:6 4:1000:4 5:6:1 5:7:0 5:7:3 5:8:2 6:6:5 ", () -> inOrder(y, 0));
        s.due("less by the high end", 1, () -> lows2(5, 7, 5, 6).child(0, false));
        s.due("greater by the high end", 1, () -> lows2(5, 7, 5, 8).child(0, true));
        s.due("greater by the id", 1, () -> lows2(5, 7, 5, 7).child(0, true));
        s.due("less by the low end", 1, () -> lows2(5, 7, 4, 9).child(0, false));
        s.due("greater by the low end", 1, () -> lows2(5, 7, 6, 6).child(0, true));

        s.says("Each node is red or black; a missing child counts as black.");
        s.due("a missing left child: a turn", "2B(1R,3R)", () -> shapeOf(1, 2, 3));
        s.due("a missing right child: a turn", "2B(1R,3R)", () -> shapeOf(3, 2, 1));
        s.due("a red child: no turn", "2B(1B,3B(-,4R))", () -> shapeOf(2, 1, 3, 4));
    }

    private static IntervalTree lows2(int low, int high, int nextLow, int nextHigh) {
        return Samples.of(Samples.row(low, high, 0), Samples.row(nextLow, nextHigh, 0));
    }

    private void newLeaves() {
        s.says("A new interval becomes a red leaf at the place that its key requires.");
        s.due("left of the root", "5B(4R,-)", () -> shapeOf(5, 4));
        s.due("right of the root", "5B(-,6R)", () -> shapeOf(5, 6));
        s.due("deeper, left of the right", "5B(3B,8B(7R,-))", () -> shapeOf(5, 3, 8, 7));
        s.due("deeper, right of the left", "5B(3B(-,4R),8B)", () -> shapeOf(5, 3, 8, 4));
        IntervalTree x = Samples.mixed();
        x.insert(2, 2, 0);
        s.due("removed nodes are passed as others", "2B(1B,3B(2R,-))", () -> Samples.shape(x));

        s.says("Then, with n being the new node, the following is repeated as long as n has a red parent p");
        s.due("a black parent: nothing more", "2B(1B,4B(3R,5R))", () -> shapeOf(2, 1, 4, 3, 5));
        s.due("no parent: nothing more", "2B", () -> shapeOf(2));
        s.due("up to a black parent", "4B(2R(1B,3B(-,3R)),5B)", () -> shapeOf(4, 1, 5, 2, 3, 3));
    }

    private void recolouring() {
        s.says("If the other child of g is red, p and that child become black, g becomes red, and n is g from then");
        s.due("n left of the left", "3B(2B(1R,-),4B)", () -> shapeOf(3, 2, 4, 1));
        s.due("n right of the left", "4B(2B(-,3R),5B)", () -> shapeOf(4, 2, 5, 3));
        s.due("n left of the right", "2B(1B,4B(3R,-))", () -> shapeOf(2, 1, 4, 3));
        s.due("n right of the right", "2B(1B,3B(-,4R))", () -> shapeOf(2, 1, 3, 4));
        s.due("g stays red below the root", "2B(1B,4R(3B,5B(-,6R)))", () -> shapeOf(1, 2, 3, 4, 5, 6));
        s.due("twice, up to the root", "4B(2B(1B,3B),6B(5B,8R(7B(-,7R),9B)))",
                () -> shapeOf(1, 2, 3, 4, 5, 6, 8, 7, 9, 7));
    }

    private void turning() {
        s.says("Otherwise, if n and p are children on different sides, the tree is rotated at p");
        s.due("left left", "2B(1R,3R)", () -> shapeOf(3, 2, 1));
        s.due("left right", "2B(1R,3R)", () -> shapeOf(3, 1, 2));
        s.due("right right", "2B(1R,3R)", () -> shapeOf(1, 2, 3));
        s.due("right left", "2B(1R,3R)", () -> shapeOf(1, 3, 2));
        s.due("below the root: left left", "8B(4B(3R,5R),9B)", () -> shapeOf(8, 5, 9, 4, 3));
        s.due("below the root: left right", "8B(4B(3R,5R),9B)", () -> shapeOf(8, 5, 9, 3, 4));
        s.due("below the root: right right", "2B(1B,6B(5R,7R))", () -> shapeOf(2, 1, 5, 6, 7));
        s.due("below the root: right left", "2B(1B,6B(5R,7R))", () -> shapeOf(2, 1, 5, 7, 6));
        s.due("under the right child's left side", "2B(1B,4B(3R,5R))", () -> shapeOf(2, 1, 5, 3, 4));
        s.due("after a recolouring, right right, with subtrees", "4B(2R(1B,3B),6R(5B,7B(-,8R)))",
                () -> shapeOf(1, 2, 3, 4, 5, 6, 7, 8));
        s.due("after a recolouring, left left, with subtrees", "5B(3R(2B(1R,-),4B),7R(6B,8B))",
                () -> shapeOf(8, 7, 6, 5, 4, 3, 2, 1));
        s.due("after a recolouring, left right, with subtrees", "7B(2R(1B,5B(4R,-)),11R(8B,14B(-,15R)))",
                () -> shapeOf(11, 2, 14, 1, 7, 15, 5, 8, 4));
        s.due("after a recolouring, right left, with subtrees", "-7B(-11R(-14B(-15R,-),-8B),-2R(-5B(-,-4R),-1B))",
                () -> shapeOf(-11, -2, -14, -1, -7, -15, -5, -8, -4));
        s.due("a turn below a red node ends the repetition", "4B(2R(1B,3B),6R(5B,9B(8R,10R)))",
                () -> shapeOf(1, 2, 3, 4, 5, 6, 8, 9, 10));

        s.says("Finally, the root becomes black.");
        s.due("a single node", "7B", () -> shapeOf(7));
        s.due("after a recolouring", "2B(1B,3B(-,4R))", () -> shapeOf(1, 2, 3, 4));
        s.due("after a turn", "2B(1R,3R)", () -> shapeOf(1, 2, 3));
    }

    private void levels() {
        s.says("The depth of the root is 0.");
        IntervalTree x = Samples.points(1);
        x.rebuild();
        s.due("a level with 2 to the power 0 nodes is full", "0B", () -> Samples.shape(x));

        s.says("The height is the number of levels, 0 without nodes.");
        s.due("new", 0, () -> new IntervalTree().height());
        s.due("only gone ones", 0, () -> Samples.onlyGone().height());
        s.due("only removed ones", 2, () -> Samples.onlyRemoved().height());
        int[] heights = {1, 2, 2, 3, 3, 4, 4, 4, 4, 5};
        for (int i = 0; i < heights.length; i++) {
            int count = i + 1;
            s.due(count + " ascending points", heights[i], () -> Samples.points(count).height());
        }
    }

    private void sizeAndNodeCount() {
        s.in("8");
        s.says("Returns the number of live intervals.");
        s.due("new", 0, () -> new IntervalTree().size());
        s.due("full", 100, () -> Samples.hundred(0).size());
        s.due("full, one removed", 99, () -> Samples.hundred(1).size());
        s.due("full, all removed", 0, () -> Samples.hundred(100).size());
        s.due("live, removed and gone", 2, () -> Samples.mixed().size());

        s.in("9");
        s.says("Returns the number of nodes.");
        s.due("new", 0, () -> new IntervalTree().nodeCount());
        s.due("full", 100, () -> Samples.hundred(0).nodeCount());

        s.says("Returns the number of intervals in the tree.");
        s.due("full, all removed", 100, () -> Samples.hundred(100).nodeCount());
        s.due("live, removed and gone", 3, () -> Samples.mixed().nodeCount());
        s.due("all gone", 0, () -> Samples.onlyGone().nodeCount());
    }

    private void height() {
        s.in("10");
        s.says("Returns the height of the tree.");
        s.due("new", 0, () -> new IntervalTree().height());
        s.due("one node", 1, () -> Samples.points(1).height());
        s.due("two nodes", 2, () -> Samples.points(2).height());
        s.due("a hundred ascending points", 11, () -> Samples.points(100).height());

        s.says("Returns the height.");
        int[] counts = {1, 2, 3, 4, 7, 8, 15, 16, 31, 32, 63, 64, 100};
        int[] heights = {1, 2, 2, 3, 3, 4, 4, 5, 5, 6, 6, 7, 7};
        for (int i = 0; i < counts.length; i++) {
            IntervalTree x = Samples.points(counts[i]);
            x.rebuild();
            s.due(counts[i] + " nodes, rebuilt", heights[i], () -> x.height());
        }
        IntervalTree left = lows(8, 7, 6, 5, 4, 3);
        s.due("the left side is deeper", 4, () -> left.height());
    }

    private void rebuildTotals() {
        s.in("11");
        s.says("Returns the number of rebuilds so far, whatever caused them.");
        IntervalTree x = Samples.hundred(1);
        s.due("none", 0, () -> x.rebuildCount());
        x.insert(0, 0, 0);
        s.due("by an insertion", 1, () -> x.rebuildCount());
        x.rebuild();
        s.due("by a call", 2, () -> x.rebuildCount());
        x.setRebuildPercentage(10);
        for (int id = 1; id <= 10; id++) {
            x.remove(id);
        }
        s.due("ten of a hundred at 10", 2, () -> x.rebuildCount());
        x.remove(11);
        s.due("by a removal", 3, () -> x.rebuildCount());
        x.open(0, 0);
        for (int i = 0; i < 9; i++) {
            x.next(0);
            x.removeCurrent(0);
        }
        s.due("by a removal at a cursor", 4, () -> x.rebuildCount());

        s.says("Returns the number of rebuilds.");
        s.due("new", 0, () -> new IntervalTree().rebuildCount());

        s.in("12");
        s.says("Returns the sum, over all rebuilds so far, of the number of nodes of the new tree.");
        s.due("99, 100, 89 and 80", 99 + 100 + 89 + 80, () -> x.rebuiltNodes());
        IntervalTree y = Samples.onlyRemoved();
        y.rebuild();
        s.due("no node", 0, () -> y.rebuiltNodes());
        y.insert(0, 0, 0);
        y.rebuild();
        y.rebuild();
        s.due("the same node twice", 2, () -> y.rebuiltNodes());

        s.says("Returns the sum.");
        s.due("new", 0, () -> new IntervalTree().rebuiltNodes());
    }

    private void state() {
        s.in("13");
        s.says("Returns the state of an interval.");
        IntervalTree m = Samples.mixed();
        s.due("of each", "2010", () -> "" + m.state(0) + m.state(1) + m.state(2) + m.state(3));

        s.says("- `id`: the id");
        s.due("the least", 2, () -> m.state(0));
        s.due("the greatest", 0, () -> m.state(3));

        s.says("Returns 0 if it is live, 1 if it is removed but in the tree, 2 if it is gone.");
        IntervalTree x = Samples.points(3);
        s.due("live", 0, () -> x.state(1));
        x.remove(1);
        s.due("removed", 1, () -> x.state(1));
        x.restore(1);
        s.due("restored", 0, () -> x.state(1));
        x.remove(1);
        x.rebuild();
        s.due("gone", 2, () -> x.state(1));

        s.says("Throws `NoSuchElementException` if no interval with this id was inserted");
        for (int id : new int[] {-1, 4, 499, 500, MIN, MAX}) {
            s.noSuchElement("id " + id, () -> m.state(id));
        }
        s.noSuchElement("an empty tree", () -> new IntervalTree().state(0));
    }

    /** The ids that a call takes: the least, a removed one and the greatest. */
    private void taken(String words, ById call, Object least, Object removed, Object greatest) {
        s.says(words);
        IntervalTree m = Samples.mixed();
        s.due("the least that is in the tree", least, () -> call.of(m, 1));
        s.due("a removed one", removed, () -> call.of(m, 2));
        s.due("the greatest", greatest, () -> call.of(m, 3));
        IntervalTree x = Samples.hundred(0);
        s.due("the least of all", false, () -> String.valueOf(call.of(x, 0)).isEmpty());
        s.due("the greatest of a hundred", false, () -> String.valueOf(call.of(x, 99)).isEmpty());
    }

    private void refused(ById call) {
        s.says("Throws `NoSuchElementException` if no interval with this id is in the tree");
        IntervalTree m = Samples.mixed();
        for (int id : Samples.absentFromMixed()) {
            s.noSuchElement("id " + id, () -> call.of(m, id));
        }
        s.noSuchElement("an empty tree", () -> call.of(new IntervalTree(), 0));
        s.noSuchElement("behind the last of a hundred", () -> call.of(Samples.hundred(0), 100));
        s.noSuchElement("all gone", () -> call.of(Samples.onlyGone(), 1));
    }

    private void lowEnd() {
        s.in("14");
        s.says("Returns the low end of an interval in the tree.");
        s.due("the least", -1000, () -> Samples.of(Samples.row(-1000, 1000, 0)).low(0));
        s.due("the greatest", 1000, () -> Samples.of(Samples.row(1000, 1000, 0)).low(0));
        taken("- `id`: the id", (x, id) -> x.low(id), 1, 2, 3);
        s.says("Returns the low end.");
        s.due("not the high end", 4, () -> Samples.of(Samples.row(4, 6, 9)).low(0));
        refused((x, id) -> x.low(id));
    }

    private void highEnd() {
        s.in("15");
        s.says("Returns the high end of an interval in the tree.");
        s.due("the least", -1000, () -> Samples.of(Samples.row(-1000, -1000, 0)).high(0));
        s.due("the greatest", 1000, () -> Samples.of(Samples.row(-1000, 1000, 0)).high(0));
        taken("- `id`: the id", (x, id) -> x.high(id), 1, 2, 3);
        s.says("Returns the high end.");
        s.due("not the low end", 6, () -> Samples.of(Samples.row(4, 6, 9)).high(0));
        refused((x, id) -> x.high(id));
    }

    private void weight() {
        s.in("16");
        s.says("Returns the weight of an interval in the tree.");
        IntervalTree x = Samples.of(Samples.row(0, 0, 999), Samples.row(0, 0, 0));
        s.due("the greatest of an insertion", 999, () -> x.weight(0));
        s.due("the least of an insertion", 0, () -> x.weight(1));
        x.addWeight(0, 0, -1);
        s.due("changed", 998, () -> x.weight(0));
        s.due("negative", -1, () -> x.weight(1));
        taken("- `id`: the id", (t, id) -> t.weight(id), 0, 0, 0);
        s.says("Returns the weight.");
        s.due("not an end", 9, () -> Samples.of(Samples.row(4, 6, 9)).weight(0));
        refused((t, id) -> t.weight(id));
    }

    private void parent() {
        s.in("17");
        s.says("Returns the parent of a node.");
        IntervalTree x = Samples.points(4);
        s.due("of a left child", 1, () -> x.parent(0));
        s.due("of a right child", 1, () -> x.parent(2));
        s.due("of a leaf", 2, () -> x.parent(3));
        taken("- `id`: the id of the interval of the node", (t, id) -> t.parent(id), 2, -1, 2);
        s.says("Returns the id of the interval of the parent, or -1 for the root.");
        s.due("the root", -1, () -> x.parent(1));
        s.due("a single node", -1, () -> Samples.points(1).parent(0));
        IntervalTree z = Samples.points(7);
        z.rebuild();
        s.due("the root after a rebuild", -1, () -> z.parent(3));
        s.due("the former root", 3, () -> z.parent(1));
        refused((t, id) -> t.parent(id));
    }

    private void child() {
        s.in("18");
        s.says("Returns a child of a node.");
        IntervalTree x = Samples.points(4);
        s.due("left", 0, () -> x.child(1, false));
        s.due("right", 2, () -> x.child(1, true));
        taken("- `id`: the id of the interval of the node", (t, id) -> t.child(id, true), -1, 3, -1);
        s.says("- `right`: true for the right child, false for the left child");
        s.due("true", 3, () -> x.child(2, true));
        s.due("false", -1, () -> x.child(2, false));
        s.says("Returns the id of the interval of the child, or -1 if there is none.");
        s.due("a leaf, left", -1, () -> x.child(3, false));
        s.due("a leaf, right", -1, () -> x.child(3, true));
        IntervalTree z = Samples.points(3);
        z.setRebuildPercentage(100);
        z.remove(0);
        s.due("a removed child", 0, () -> z.child(1, false));
        z.rebuild();
        s.due("two are left: 2 is the root", 1, () -> z.child(2, false));
        s.due("no right child of the new root", -1, () -> z.child(2, true));
        refused((t, id) -> t.child(id, true));
        refused((t, id) -> t.child(id, false));
    }

    private void isRed() {
        s.in("19");
        s.says("Returns whether a node is red.");
        IntervalTree x = Samples.points(2);
        s.due("the root", false, () -> x.isRed(0));
        s.due("a new leaf", true, () -> x.isRed(1));
        taken("- `id`: the id of the interval of the node", (t, id) -> t.isRed(id), false, false, false);
        s.says("Returns true if it is red.");
        x.remove(1);
        s.due("a removed red one", true, () -> x.isRed(1));
        refused((t, id) -> t.isRed(id));
    }

    /** The root is 1; 0 is its left child; 2 its right child with the leaf 3. */
    private static IntervalTree four() {
        return Samples.of(Samples.row(0, 50, 10), Samples.row(10, 20, 30), Samples.row(20, 30, 20),
                Samples.row(30, 40, 5));
    }

    private void subtreeSize() {
        s.in("20");
        s.says("Returns the number of live intervals in the subtree of a node, the node included.");
        IntervalTree x = four();
        s.due("all", 4, () -> x.subtreeSize(1));
        s.due("a part", 2, () -> x.subtreeSize(2));
        s.due("a leaf", 1, () -> x.subtreeSize(0));
        x.remove(2);
        s.due("the node itself is removed", 1, () -> x.subtreeSize(2));
        s.due("without the removed one", 3, () -> x.subtreeSize(1));
        taken("- `id`: the id of the interval of the node", (t, id) -> t.subtreeSize(id), 1, 2, 1);
        s.says("Returns the number of live intervals.");
        x.remove(3);
        s.due("none", 0, () -> x.subtreeSize(2));
        s.due("none in a leaf", 0, () -> x.subtreeSize(3));
        s.due("all removed", 0, () -> Samples.onlyRemoved().subtreeSize(0));
        IntervalTree full = Samples.hundred(0);
        full.rebuild();
        s.due("a hundred", 100, () -> full.subtreeSize(50));
        refused((t, id) -> t.subtreeSize(id));
    }

    private void subtreeHigh() {
        s.in("21");
        s.says("Returns the greatest high end of the live intervals in the subtree of a node, the node included.");
        IntervalTree x = four();
        s.due("all", 50, () -> x.subtreeHigh(1));
        s.due("a part, by a leaf", 40, () -> x.subtreeHigh(2));
        s.due("a leaf", 50, () -> x.subtreeHigh(0));
        x.remove(3);
        s.due("the node itself", 30, () -> x.subtreeHigh(2));
        x.remove(0);
        s.due("live ones only", 30, () -> x.subtreeHigh(1));
        taken("- `id`: the id of the interval of the node", (t, id) -> t.subtreeHigh(id), 1, 3, 3);
        s.says("Returns the greatest high end.");
        s.due("the least", -1000, () -> Samples.of(Samples.row(-1000, -1000, 0)).subtreeHigh(0));
        s.due("the greatest", 1000, () -> Samples.of(Samples.row(-1000, 1000, 0)).subtreeHigh(0));
        refused((t, id) -> t.subtreeHigh(id));
        s.says("Throws `IllegalStateException` if there is no live interval in the subtree");
        IntervalTree y = four();
        y.setRebuildPercentage(100);
        y.remove(3);
        s.illegalState("a removed leaf", () -> y.subtreeHigh(3));
        s.due("its parent is live", 30, () -> y.subtreeHigh(2));
        y.remove(2);
        s.illegalState("a removed leaf and its parent", () -> y.subtreeHigh(2));
        s.illegalState("all removed", () -> Samples.onlyRemoved().subtreeHigh(0));
        s.noSuchElement("all gone", () -> Samples.onlyGone().subtreeHigh(0));
    }

    private void subtreeWeight() {
        s.in("22");
        s.says("Returns the greatest weight of the live intervals in the subtree of a node, the node included.");
        IntervalTree x = four();
        s.due("all, by the node itself", 30, () -> x.subtreeWeight(1));
        s.due("a part", 20, () -> x.subtreeWeight(2));
        s.due("a leaf", 5, () -> x.subtreeWeight(3));
        x.addWeight(30, 30, 100);
        s.due("changed weights", 105, () -> x.subtreeWeight(2));
        x.remove(3);
        s.due("live ones only", 20, () -> x.subtreeWeight(2));
        taken("- `id`: the id of the interval of the node", (t, id) -> t.subtreeWeight(id), 0, 0, 0);
        s.says("Returns the greatest weight.");
        IntervalTree negative = four();
        negative.addWeight(MIN, MAX, -1000);
        s.due("all negative", -970, () -> negative.subtreeWeight(1));
        s.due("a negative leaf", -990, () -> negative.subtreeWeight(0));
        s.due("the least of an insertion", 0, () -> Samples.of(Samples.row(0, 0, 0)).subtreeWeight(0));
        s.due("the greatest of an insertion", 999, () -> Samples.of(Samples.row(0, 0, 999)).subtreeWeight(0));
        refused((t, id) -> t.subtreeWeight(id));
        s.says("Throws `IllegalStateException` if there is no live interval in the subtree");
        IntervalTree y = four();
        y.setRebuildPercentage(100);
        y.remove(0);
        s.illegalState("a removed leaf", () -> y.subtreeWeight(0));
        y.remove(2);
        s.due("a live leaf below", 5, () -> y.subtreeWeight(2));
        y.remove(3);
        s.illegalState("a removed node and leaf", () -> y.subtreeWeight(2));
        s.illegalState("all removed", () -> Samples.onlyRemoved().subtreeWeight(1));
        s.noSuchElement("all gone", () -> Samples.onlyGone().subtreeWeight(1));
    }

    /** The document's digest is the CRC-32 of all bytes without the inversion at its end. */
    private static int crc(int... bytes) {
        CRC32 crc = new CRC32();
        for (int b : bytes) {
            crc.update(b);
        }
        return ~(int) crc.getValue();
    }

    private void digest() {
        s.in("23");
        s.says("Returns a digest of the tree.");
        IntervalTree x = Samples.points(3);
        int before = x.digest();
        x.addWeight(MIN, MAX, 5);
        s.due("weights do not count", before, () -> x.digest());
        x.remove(0);
        s.due("a removed one counts", false, () -> x.digest() == before);
        x.restore(0);
        s.due("restored", before, () -> x.digest());
        x.rebuild();
        s.due("colours count", false, () -> x.digest() == before);

        s.says("The digest is an int d, initially -1.");
        s.due("no nodes", -1, () -> new IntervalTree().digest());
        s.due("all gone", -1, () -> Samples.onlyGone().digest());

        s.says("The nodes are visited in preorder: a node before its left subtree, the left subtree before the right");
        s.due("1B(0B,3R(2B,5B(4R,6R)))",
                crc(1, 0, 0, 0, 0, 0, 0, 0, 3, 0, 1, 0, 2, 0, 0, 0, 5, 0, 0, 0, 4, 0, 1, 0, 6, 0, 1, 0),
                () -> Samples.points(7).digest());
    }

    private void digestBytes() {
        s.says("For each node, four bytes are absorbed: id modulo 256, id divided by 256 and rounded down, 1 if the");
        // Ids above 255 in less than 512 calls: the tree is emptied twice, 100 removals at a time.
        IntervalTree x = Samples.hundred(100);
        for (int id = 100; id < 200; id++) {
            x.insert(id, id, 0);
        }
        for (int id = 100; id < 200; id++) {
            x.remove(id);
        }
        x.insert(200, 200, 0);
        for (int id = 201; id < 256; id++) {
            x.insert(0, 0, 0);
            if (id < 210) {
                x.remove(id);
            }
        }
        for (int id = 200; id < 255; id++) {
            if (id == 200 || id >= 210) {
                x.remove(id);
            }
        }
        x.rebuild();
        s.due("id 255", crc(255, 0, 0, 0), () -> x.digest());
        x.insert(1, 1, 0);
        s.due("ids 255 and 256", crc(255, 0, 0, 0, 0, 1, 1, 0), () -> x.digest());
        x.remove(255);
        x.insert(2, 2, 0);
        s.due("ids 255, 256 and 257", crc(0, 1, 0, 0, 255, 0, 1, 1, 1, 1, 1, 0), () -> x.digest());
        IntervalTree y = Samples.points(2);
        s.due("a red one", crc(0, 0, 0, 0, 1, 0, 1, 0), () -> y.digest());
        y.remove(1);
        s.due("a red removed one", crc(0, 0, 0, 0, 1, 0, 1, 1), () -> y.digest());
        y.restore(1);
        y.remove(0);
        s.due("a black removed one", crc(0, 0, 0, 1, 1, 0, 1, 0), () -> y.digest());

        s.says("To absorb a byte b, d becomes (d >>> 8) ^ t, where t is the table entry for (d ^ b) & 255.");
        // The four zero bytes of a single black node with the id 0, whose usual CRC-32 is 0x2144DF1C.
        s.due("four zero bytes", ~0x2144DF1C, () -> Samples.points(1).digest());

        s.says("The table entry for i is obtained from i by 8 steps, each of which replaces x by (x >>> 1) ^");
        for (int id = 0; id < 100; id++) {
            IntervalTree single = new IntervalTree();
            single.setRebuildPercentage(10);
            for (int i = 0; i < id; i++) {
                single.remove(single.insert(0, 0, 0));
            }
            single.insert(0, 0, 0);
            s.due("id " + id, crc(id, 0, 0, 0), () -> single.digest());
        }

        s.says("Returns the digest.");
        s.due("the same again", Samples.busy().digest(), () -> Samples.busy().digest());
    }
}
