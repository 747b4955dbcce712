/** Each promise by hand: ordinary inputs, the edges that the document names, and wrong inputs. */
public final class PromisesTest {
    private static final int MIN = Integer.MIN_VALUE;
    private static final int MAX = Integer.MAX_VALUE;
    private static final Checks c = new Checks();

    public static void main(String[] args) {
        newObject();
        insert();
        insertIntoFullTree();
        insertFiveHundred();
        remove();
        restore();
        rebuild();
        rebuiltShapes();
        percentage();
        addWeight();
        numbersOfTheTree();
        stateAndEnds();
        links();
        turns();
        subtrees();
        digest();
        stabbing();
        ranking();
        firstOverlap();
        floorAndCeiling();
        rankAndSelect();
        nearest();
        covered();
        deepestPoint();
        overlapCount();
        schedule();
        scheduleTies();
        piercing();
        rangeFilters();
        heavierFilter();
        combinedFilters();
        filterLimit();
        initialFilters();
        matching();
        cursors();
        cursorPositions();
        removeCurrent();
        saveAndLoad();
        loadClosesCursors();
        c.end();
    }

    /** A tree of the points 0, 1, .. in this order, with their ids as low ends. */
    private static IntervalTree points(int count) {
        IntervalTree x = new IntervalTree();
        for (int i = 0; i < count; i++) {
            x.insert(i, i, 0);
        }
        return x;
    }

    private static void newObject() {
        IntervalTree x = new IntervalTree();
        c.due("new size", 0, () -> x.size());
        c.due("new nodeCount", 0, () -> x.nodeCount());
        c.due("new height", 0, () -> x.height());
        c.due("new rebuildCount", 0, () -> x.rebuildCount());
        c.due("new rebuiltNodes", 0, () -> x.rebuiltNodes());
        c.due("new digest", -1, () -> x.digest());
        c.due("new percentage", 50, () -> x.setRebuildPercentage(50));
        c.illegalState("new load", () -> x.load());
        for (int i = 0; i < 4; i++) {
            final int n = i;
            c.illegalState("new cursor " + i, () -> x.hasNext(n));
        }
        c.due("new filter 2", 0, () -> x.matchCount(2));
        c.illegalArgument("new filter 3", () -> x.matchCount(3));
        c.due("new buffer", 1, () -> x.feed(0));
    }

    private static void insert() {
        IntervalTree x = new IntervalTree();
        c.illegalArgument("low too small", () -> x.insert(-1001, 0, 0));
        c.illegalArgument("low too great", () -> x.insert(1001, 1001, 0));
        c.illegalArgument("high below low", () -> x.insert(5, 4, 0));
        c.illegalArgument("high too great", () -> x.insert(0, 1001, 0));
        c.illegalArgument("weight negative", () -> x.insert(0, 0, -1));
        c.illegalArgument("weight too great", () -> x.insert(0, 0, 1000));
        c.illegalArgument("extreme low", () -> x.insert(MIN, 0, 0));
        c.illegalArgument("extreme high", () -> x.insert(0, MAX, 0));
        c.illegalArgument("extreme weight", () -> x.insert(0, 0, MIN));
        c.due("the first id, also after errors", 0, () -> x.insert(-1000, 1000, 999));
        c.due("second", 1, () -> x.insert(1000, 1000, 0));
        c.due("third", 2, () -> x.insert(-1000, -1000, 5));
        c.due("equal interval", 3, () -> x.insert(-1000, 1000, 999));
        c.due("size", 4, () -> x.size());
        x.remove(3);
        x.rebuild();
        c.due("ids are not reused", 4, () -> x.insert(0, 0, 0));
        c.due("order by low, then high, then id: 0", 2, () -> x.select(0));
        c.due("order by low, then high, then id: 1", 0, () -> x.select(1));
    }

    private static void insertIntoFullTree() {
        IntervalTree x = points(100);
        c.illegalState("a full tree", () -> x.insert(5, 5, 0));
        c.illegalArgument("a full tree and a wrong argument", () -> x.insert(5, 4, 0));
        c.due("no rebuild by that", 0, () -> x.rebuildCount());
        c.due("height of 100 ascending points", true, () -> x.height() <= 13);
        x.remove(10);
        c.due("removed stays", 100, () -> x.nodeCount());
        c.illegalArgument("wrong argument, no rebuild", () -> x.insert(0, 0, 1000));
        c.due("no rebuild yet", 0, () -> x.rebuildCount());
        c.due("insertion with a rebuild", 100, () -> x.insert(10, 10, 0));
        c.due("one rebuild", 1, () -> x.rebuildCount());
        c.due("of 99 nodes", 99, () -> x.rebuiltNodes());
        c.due("100 nodes", 100, () -> x.nodeCount());
        c.due("the removed one is gone", 2, () -> x.state(10));
        c.illegalState("full again", () -> x.insert(5, 5, 0));
        x.remove(11);
        x.restore(11);
        c.illegalState("full, restored", () -> x.insert(5, 5, 0));
        c.due("all live", 100, () -> x.size());
    }

    private static void insertFiveHundred() {
        IntervalTree x = new IntervalTree();
        for (int i = 0; i < 500; i++) {
            final int n = i;
            c.due("insertion " + i, n, () -> x.insert(n, n, 1));
            // At 100 percent nothing but insertions into a full tree, here every hundredth, rebuilds.
            if (i == 0) {
                x.setRebuildPercentage(100);
            }
            if (i % 2 == 1) {
                x.remove(n);
                x.remove(n - 1);
            }
        }
        c.due("rebuilds", 4, () -> x.rebuildCount());
        c.due("nodes of the rebuilds", 0, () -> x.rebuiltNodes());
        c.illegalState("insertion 500", () -> x.insert(0, 0, 0));
        c.due("no rebuild by an insertion that throws", 4, () -> x.rebuildCount());
        c.due("nodes", 100, () -> x.nodeCount());
        c.due("state of 499", 1, () -> x.state(499));
        c.noSuchElement("state of 500", () -> x.state(500));
        c.due("digest is taken of ids above 255", true, () -> x.digest() != -1);
    }

    private static void remove() {
        IntervalTree x = points(4);
        c.noSuchElement("remove(4)", () -> x.remove(4));
        c.noSuchElement("remove(-1)", () -> x.remove(-1));
        c.noSuchElement("remove(MAX)", () -> x.remove(MAX));
        c.noSuchElement("remove(MIN)", () -> x.remove(MIN));
        c.due("remove(1)", 3, () -> x.remove(1));
        c.noSuchElement("remove(1) again", () -> x.remove(1));
        c.due("in the tree", 4, () -> x.nodeCount());
        c.due("remove(2)", 2, () -> x.remove(2));
        c.due("200 is not greater than 200", 0, () -> x.rebuildCount());
        c.due("remove(3)", 1, () -> x.remove(3));
        c.due("300 is greater than 200", 1, () -> x.rebuildCount());
        c.due("one node", 1, () -> x.nodeCount());
        c.due("gone", 2, () -> x.state(1));
        c.noSuchElement("remove of a gone one", () -> x.remove(1));
        c.due("remove(0)", 0, () -> x.remove(0));
        c.due("rebuild to nothing", 2, () -> x.rebuildCount());
        c.due("rebuilt nodes", 1, () -> x.rebuiltNodes());
        c.due("no nodes", 0, () -> x.nodeCount());
    }

    private static void restore() {
        IntervalTree x = points(3);
        c.noSuchElement("restore(3)", () -> x.restore(3));
        c.noSuchElement("restore(-1)", () -> x.restore(-1));
        c.illegalState("restore of a live one", () -> x.restore(0));
        x.remove(1);
        x.addWeight(1, 1, 7);
        c.due("restore(1)", 3, () -> x.restore(1));
        c.due("its present weight", 7, () -> x.weight(1));
        c.due("state", 0, () -> x.state(1));
        x.remove(1);
        x.rebuild();
        c.illegalState("restore of a gone one", () -> x.restore(1));
        c.due("size", 2, () -> x.size());
    }

    private static void rebuild() {
        IntervalTree x = new IntervalTree();
        c.due("rebuild of nothing", 0, () -> x.rebuild());
        c.due("counts", 1, () -> x.rebuildCount());
        IntervalTree y = points(6);
        c.due("rebuild with none removed", 0, () -> y.rebuild());
        c.due("counts too", 1, () -> y.rebuildCount());
        c.due("6 nodes", 6, () -> y.rebuiltNodes());
        y.remove(2);
        y.remove(4);
        c.due("rebuild with two removed", 2, () -> y.rebuild());
        c.due("4 nodes more", 10, () -> y.rebuiltNodes());
        c.due("states", 2, () -> y.state(2));
        c.due("4 nodes", 4, () -> y.nodeCount());
        c.due("root of 0 1 3 5", -1, () -> y.parent(3));
        c.due("left of 3", 1, () -> y.child(3, false));
        c.due("right of 3", 5, () -> y.child(3, true));
        c.due("left of 1", 0, () -> y.child(1, false));
        c.due("right of 1", -1, () -> y.child(1, true));
        c.due("the deepest is red", true, () -> y.isRed(0));
        c.due("the others are black", false, () -> y.isRed(1) || y.isRed(3) || y.isRed(5));
    }

    private static void rebuiltShapes() {
        for (int count = 1; count <= 100; count++) {
            IntervalTree x = points(count);
            x.rebuild();
            final int n = count;
            final int levels = 32 - Integer.numberOfLeadingZeros(n);
            final boolean full = n == (1 << levels) - 1;
            c.due("root of " + n, -1, () -> x.parent(n / 2));
            c.due("height of " + n, levels, () -> x.height());
            int reds = 0;
            for (int i = 0; i < n; i++) {
                reds += x.isRed(i) ? 1 : 0;
            }
            final int seen = reds;
            c.due("reds of " + n, full ? 0 : n - (1 << levels - 1) + 1, () -> seen);
        }
    }

    private static void percentage() {
        IntervalTree x = points(10);
        c.illegalArgument("9 percent", () -> x.setRebuildPercentage(9));
        c.illegalArgument("101 percent", () -> x.setRebuildPercentage(101));
        c.illegalArgument("-50 percent", () -> x.setRebuildPercentage(-50));
        c.due("100 percent", 50, () -> x.setRebuildPercentage(100));
        for (int i = 0; i < 10; i++) {
            x.remove(i);
        }
        c.due("never at 100 percent", 0, () -> x.rebuildCount());
        c.due("10 percent", 100, () -> x.setRebuildPercentage(10));
        c.due("setting it rebuilds nothing", 10, () -> x.nodeCount());
        for (int i = 0; i < 10; i++) {
            x.restore(i);
        }
        c.due("restoring rebuilds nothing", 0, () -> x.rebuildCount());
        x.remove(0);
        c.due("100 is not greater than 100", 0, () -> x.rebuildCount());
        x.remove(1);
        c.due("200 is greater than 100", 1, () -> x.rebuildCount());
        c.due("same again", 10, () -> x.setRebuildPercentage(10));
    }

    private static void addWeight() {
        IntervalTree x = points(4);
        c.illegalArgument("from > to", () -> x.addWeight(2, 1, 0));
        c.illegalArgument("delta too great", () -> x.addWeight(0, 0, 1001));
        c.illegalArgument("delta too small", () -> x.addWeight(0, 0, -1001));
        c.illegalArgument("delta MIN", () -> x.addWeight(0, 0, MIN));
        x.remove(2);
        c.due("range 1 to 2", 1, () -> x.addWeight(1, 2, 1000));
        c.due("weight of a removed one", 1000, () -> x.weight(2));
        c.due("weight of a live one", 1000, () -> x.weight(1));
        c.due("outside left", 0, () -> x.weight(0));
        c.due("outside right", 0, () -> x.weight(3));
        c.due("everything", 3, () -> x.addWeight(MIN, MAX, -1000));
        c.due("negative weight", -1000, () -> x.weight(3));
        c.due("nothing there", 0, () -> x.addWeight(4, MAX, 5));
        IntervalTree y = new IntervalTree();
        y.insert(0, 10, 3);
        c.due("only low ends count", 0, () -> y.addWeight(1, 10, 5));
        c.due("unchanged", 3, () -> y.weight(0));
    }

    private static void numbersOfTheTree() {
        IntervalTree x = points(5);
        c.due("size", 5, () -> x.size());
        c.due("nodeCount", 5, () -> x.nodeCount());
        c.due("height", 3, () -> x.height());
        x.remove(0);
        c.due("size after removal", 4, () -> x.size());
        c.due("nodeCount after removal", 5, () -> x.nodeCount());
        c.due("height after removal", 3, () -> x.height());
        c.due("rebuildCount", 0, () -> x.rebuildCount());
        x.rebuild();
        c.due("rebuildCount after", 1, () -> x.rebuildCount());
        c.due("rebuiltNodes after", 4, () -> x.rebuiltNodes());
        c.due("nodeCount after", 4, () -> x.nodeCount());
        x.rebuild();
        c.due("rebuildCount after two", 2, () -> x.rebuildCount());
        c.due("rebuiltNodes after two", 8, () -> x.rebuiltNodes());
        c.due("height of one", 1, () -> points(1).height());
    }

    private static void stateAndEnds() {
        IntervalTree x = new IntervalTree();
        x.insert(-7, 12, 345);
        x.insert(0, 0, 0);
        x.insert(1, 1, 0);
        c.due("low", -7, () -> x.low(0));
        c.due("high", 12, () -> x.high(0));
        c.due("weight", 345, () -> x.weight(0));
        c.due("state live", 0, () -> x.state(0));
        x.remove(0);
        c.due("low removed", -7, () -> x.low(0));
        c.due("high removed", 12, () -> x.high(0));
        c.due("weight removed", 345, () -> x.weight(0));
        c.due("state removed", 1, () -> x.state(0));
        x.rebuild();
        c.due("state gone", 2, () -> x.state(0));
        int[] absent = {0, 3, -1, 500, MIN, MAX};
        for (int id : absent) {
            c.noSuchElement("low " + id, () -> x.low(id));
            c.noSuchElement("high " + id, () -> x.high(id));
            c.noSuchElement("weight " + id, () -> x.weight(id));
            c.noSuchElement("parent " + id, () -> x.parent(id));
            c.noSuchElement("child " + id, () -> x.child(id, true));
            c.noSuchElement("isRed " + id, () -> x.isRed(id));
            c.noSuchElement("subtreeSize " + id, () -> x.subtreeSize(id));
            c.noSuchElement("subtreeHigh " + id, () -> x.subtreeHigh(id));
            c.noSuchElement("subtreeWeight " + id, () -> x.subtreeWeight(id));
            c.noSuchElement("rank " + id, () -> x.rank(id));
            c.noSuchElement("accepts " + id, () -> x.accepts(0, id));
            c.noSuchElement("addHeavierFilter " + id, () -> x.addHeavierFilter(id));
            if (id != 0) {
                c.noSuchElement("state " + id, () -> x.state(id));
            }
        }
    }

    private static void links() {
        IntervalTree x = points(3);
        c.due("root", -1, () -> x.parent(1));
        c.due("parent of 0", 1, () -> x.parent(0));
        c.due("parent of 2", 1, () -> x.parent(2));
        c.due("left child", 0, () -> x.child(1, false));
        c.due("right child", 2, () -> x.child(1, true));
        c.due("no left child", -1, () -> x.child(0, false));
        c.due("no right child", -1, () -> x.child(2, true));
        c.due("root is black", false, () -> x.isRed(1));
        c.due("leaf is red", true, () -> x.isRed(2));
        x.remove(1);
        c.due("a removed node keeps its children", 0, () -> x.child(1, false));
        c.due("a removed node is a parent", 1, () -> x.parent(0));
    }

    private static void turn(String name, int a, int b, int d) {
        IntervalTree x = new IntervalTree();
        int[] lows = {a, b, d};
        int middle = -1;
        for (int i = 0; i < 3; i++) {
            x.insert(lows[i], lows[i], 0);
            middle = lows[i] == 2 ? i : middle;
        }
        final int m = middle;
        c.due(name + " root", -1, () -> x.parent(m));
        c.due(name + " left", 1, () -> x.low(x.child(m, false)));
        c.due(name + " right", 3, () -> x.low(x.child(m, true)));
        c.due(name + " colours", "falsetruetrue",
                () -> "" + x.isRed(m) + x.isRed(x.child(m, false)) + x.isRed(x.child(m, true)));
        x.insert(4, 4, 0);
        c.due(name + " recoloured", "falsefalsefalsetrue",
                () -> "" + x.isRed(m) + x.isRed(x.child(m, false)) + x.isRed(x.child(m, true)) + x.isRed(3));
    }

    private static void turns() {
        turn("right right", 1, 2, 3);
        turn("left left", 3, 2, 1);
        turn("right left", 1, 3, 2);
        turn("left right", 3, 1, 2);
    }

    private static void subtrees() {
        IntervalTree x = new IntervalTree();
        x.insert(0, 50, 10);
        x.insert(10, 20, 30);
        x.insert(20, 30, 20);
        x.insert(30, 40, 5);
        c.due("size of all", 4, () -> x.subtreeSize(1));
        c.due("size of a part", 2, () -> x.subtreeSize(2));
        c.due("size of a leaf", 1, () -> x.subtreeSize(3));
        c.due("high of all", 50, () -> x.subtreeHigh(1));
        c.due("high of a part", 40, () -> x.subtreeHigh(2));
        c.due("weight of all", 30, () -> x.subtreeWeight(1));
        c.due("weight of a part", 20, () -> x.subtreeWeight(2));
        x.remove(3);
        c.due("size of a removed leaf", 0, () -> x.subtreeSize(3));
        c.illegalState("high of a removed leaf", () -> x.subtreeHigh(3));
        c.illegalState("weight of a removed leaf", () -> x.subtreeWeight(3));
        c.due("high without the removed", 30, () -> x.subtreeHigh(2));
        x.addWeight(MIN, MAX, -1000);
        c.due("negative weight", -980, () -> x.subtreeWeight(2));
        x.remove(1);
        c.due("a removed root", 2, () -> x.subtreeSize(1));
        c.due("weight under a removed root", -980, () -> x.subtreeWeight(1));
        c.due("negative high", -3, () -> {
            IntervalTree y = new IntervalTree();
            y.insert(-5, -3, 0);
            return y.subtreeHigh(0);
        });
    }

    private static void digest() {
        IntervalTree x = new IntervalTree();
        c.due("empty", -1, () -> x.digest());
        x.insert(0, 0, 0);
        // Four zero bytes: the usual CRC-32 of them is 0x2144DF1C, the document's digest is not inverted.
        c.due("one black node with id 0", ~0x2144DF1C, () -> x.digest());
        IntervalTree y = points(3);
        y.remove(1);
        java.util.zip.CRC32 crc = new java.util.zip.CRC32();
        crc.update(new byte[] {1, 0, 0, 1, 0, 0, 1, 0, 2, 0, 1, 0});
        c.due("three nodes", ~(int) crc.getValue(), () -> y.digest());
        IntervalTree z = new IntervalTree();
        z.setRebuildPercentage(10);
        for (int i = 0; i < 258; i++) {
            z.insert(i, i, 0);
            if (i < 257) {
                z.remove(i);
            }
        }
        java.util.zip.CRC32 great = new java.util.zip.CRC32();
        great.update(new byte[] {1, 1, 0, 0});
        c.due("id 257", ~(int) great.getValue(), () -> z.digest());
    }

    private static IntervalTree some() {
        IntervalTree x = new IntervalTree();
        x.insert(0, 10, 5);
        x.insert(5, 15, 8);
        x.insert(10, 20, 5);
        x.insert(30, 30, 9);
        x.insert(5, 12, 100);
        x.remove(4);
        return x;
    }

    private static void stabbing() {
        IntervalTree x = some();
        int[] at = {-1, 0, 4, 5, 10, 11, 15, 16, 20, 21, 30, 31, MIN, MAX};
        int[] counts = {0, 1, 1, 2, 3, 2, 2, 1, 1, 0, 1, 0, 0, 0};
        int[] sums = {0, 5, 5, 13, 18, 13, 13, 5, 5, 0, 9, 0, 0, 0};
        for (int i = 0; i < at.length; i++) {
            final int n = i;
            c.due("stabCount " + at[i], counts[n], () -> x.stabCount(at[n]));
            c.due("stabWeight " + at[i], sums[n], () -> x.stabWeight(at[n]));
        }
        x.addWeight(0, 0, -100);
        c.due("negative sum", -95, () -> x.stabWeight(0));
        x.restore(4);
        c.due("restored", 4, () -> x.stabCount(10));
    }

    private static void ranking() {
        IntervalTree x = some();
        c.due("heaviest 0", 1, () -> x.heaviest(10, 0));
        c.due("heaviest 1, equal weights by id", 0, () -> x.heaviest(10, 1));
        c.due("heaviest 2", 2, () -> x.heaviest(10, 2));
        c.due("heaviest 3", -1, () -> x.heaviest(10, 3));
        c.due("heaviest MAX", -1, () -> x.heaviest(10, MAX));
        c.due("heaviest of none", -1, () -> x.heaviest(25, 0));
        c.due("heaviest at MIN", -1, () -> x.heaviest(MIN, 0));
        c.illegalArgument("heaviest(10, -1)", () -> x.heaviest(10, -1));
        c.illegalArgument("heaviest(10, MIN)", () -> x.heaviest(10, MIN));
        c.due("overlap 0", 3, () -> x.heaviestOverlap(0, 30, 0));
        c.due("overlap 3", 2, () -> x.heaviestOverlap(0, 30, 3));
        c.due("overlap 4", -1, () -> x.heaviestOverlap(0, 30, 4));
        c.due("overlap of all ints", 1, () -> x.heaviestOverlap(MIN, MAX, 1));
        c.due("overlap at the high end", 2, () -> x.heaviestOverlap(20, 29, 0));
        c.due("overlap of a gap", -1, () -> x.heaviestOverlap(21, 29, 0));
        c.due("overlap of a point", 3, () -> x.heaviestOverlap(30, 30, 0));
        c.illegalArgument("overlap from > to", () -> x.heaviestOverlap(1, 0, 0));
        c.illegalArgument("overlap k < 0", () -> x.heaviestOverlap(0, 1, -1));
        x.addWeight(10, 10, -50);
        c.due("negative weight last", 2, () -> x.heaviest(10, 2));
        c.due("empty tree", -1, () -> new IntervalTree().heaviest(0, 0));
        IntervalTree y = new IntervalTree();
        for (int i = 0; i < 100; i++) {
            y.insert(0, 0, i);
        }
        c.due("last of a hundred", 0, () -> y.heaviest(0, 99));
        c.due("behind a hundred", -1, () -> y.heaviest(0, 100));
    }

    private static void firstOverlap() {
        IntervalTree x = some();
        c.due("all", 0, () -> x.firstOverlap(MIN, MAX));
        c.due("from 11", 1, () -> x.firstOverlap(11, 40));
        c.due("from 16", 2, () -> x.firstOverlap(16, 40));
        c.due("gap", -1, () -> x.firstOverlap(21, 29));
        c.due("point", 3, () -> x.firstOverlap(30, 30));
        c.illegalArgument("from > to", () -> x.firstOverlap(1, 0));
        x.restore(4);
        c.due("least key, not least id", 4, () -> x.firstOverlap(11, 40));
        c.due("empty", -1, () -> new IntervalTree().firstOverlap(0, 0));
    }

    private static void floorAndCeiling() {
        IntervalTree x = some();
        c.due("floor below", -1, () -> x.floor(-1));
        c.due("floor 0", 0, () -> x.floor(0));
        c.due("floor 5", 1, () -> x.floor(5));
        c.due("floor 29", 2, () -> x.floor(29));
        c.due("floor MAX", 3, () -> x.floor(MAX));
        c.due("floor MIN", -1, () -> x.floor(MIN));
        c.due("ceiling MIN", 0, () -> x.ceiling(MIN));
        c.due("ceiling 1", 1, () -> x.ceiling(1));
        c.due("ceiling 5", 1, () -> x.ceiling(5));
        c.due("ceiling 30", 3, () -> x.ceiling(30));
        c.due("ceiling 31", -1, () -> x.ceiling(31));
        c.due("ceiling MAX", -1, () -> x.ceiling(MAX));
        x.restore(4);
        c.due("ceiling 5 with more", 4, () -> x.ceiling(5));
        c.due("floor 5 with more", 1, () -> x.floor(5));
        x.insert(5, 15, 0);
        c.due("floor with equal ends", 5, () -> x.floor(5));
        c.due("ceiling with equal low ends", 4, () -> x.ceiling(5));
    }

    private static void rankAndSelect() {
        IntervalTree x = some();
        int[] order = {0, 1, 2, 3};
        for (int id : order) {
            c.due("rank " + id, id, () -> x.rank(id));
            c.due("select " + id, id, () -> x.select(id));
        }
        c.noSuchElement("rank of a removed one", () -> x.rank(4));
        c.outOfBounds("select(4)", () -> x.select(4));
        c.outOfBounds("select(-1)", () -> x.select(-1));
        c.outOfBounds("select(MIN)", () -> x.select(MIN));
        c.outOfBounds("select(MAX)", () -> x.select(MAX));
        x.restore(4);
        c.due("rank 4", 1, () -> x.rank(4));
        c.due("rank 1", 2, () -> x.rank(1));
        c.due("select 1", 4, () -> x.select(1));
        c.outOfBounds("select of nothing", () -> new IntervalTree().select(0));
    }

    private static void nearest() {
        IntervalTree x = some();
        c.due("inside", 0, () -> x.nearest(10));
        c.due("nearer right", 3, () -> x.nearest(26));
        c.due("equally near: least key", 2, () -> x.nearest(25));
        c.due("left of all", 0, () -> x.nearest(-2000));
        c.due("right of all", 3, () -> x.nearest(2000));
        c.due("contained beats a smaller key", 1, () -> x.nearest(12));
        c.illegalArgument("-2001", () -> x.nearest(-2001));
        c.illegalArgument("2001", () -> x.nearest(2001));
        c.illegalArgument("MIN", () -> x.nearest(MIN));
        c.due("none", -1, () -> new IntervalTree().nearest(0));
        c.illegalArgument("none, out of range", () -> new IntervalTree().nearest(2001));
    }

    private static void covered() {
        IntervalTree x = some();
        c.due("all", 22, () -> x.covered(-2000, 2000));
        c.due("part", 6, () -> x.covered(5, 10));
        c.due("begin inside", 3, () -> x.covered(18, 29));
        c.due("point in", 1, () -> x.covered(30, 30));
        c.due("point out", 0, () -> x.covered(29, 29));
        c.due("none", 0, () -> new IntervalTree().covered(0, 0));
        c.illegalArgument("from > to", () -> x.covered(1, 0));
        c.illegalArgument("from too small", () -> x.covered(-2001, 0));
        c.illegalArgument("to too great", () -> x.covered(0, 2001));
        c.illegalArgument("both too great", () -> x.covered(2001, 2002));
        c.illegalArgument("both too small", () -> x.covered(-2002, -2001));
        IntervalTree y = new IntervalTree();
        y.insert(0, 100, 0);
        y.insert(10, 20, 0);
        y.insert(15, 110, 0);
        y.insert(112, 113, 0);
        c.due("nested", 113, () -> y.covered(-5, 200));
        IntervalTree z = new IntervalTree();
        z.insert(-1000, 1000, 0);
        c.due("widest", 2001, () -> z.covered(-2000, 2000));
    }

    private static void deepestPoint() {
        IntervalTree x = some();
        c.due("deepest", 10, () -> x.deepestPoint());
        x.restore(4);
        c.due("deepest with the restored", 10, () -> x.deepestPoint());
        c.noSuchElement("none", () -> new IntervalTree().deepestPoint());
        IntervalTree y = new IntervalTree();
        y.insert(7, 9, 0);
        y.insert(-1000, -999, 0);
        c.due("the least of several", -1000, () -> y.deepestPoint());
        y.remove(1);
        c.due("live only", 7, () -> y.deepestPoint());
        y.remove(0);
        c.noSuchElement("none live", () -> y.deepestPoint());
    }

    private static void overlapCount() {
        IntervalTree x = some();
        c.due("pairs", 3, () -> x.overlapCount());
        x.restore(4);
        c.due("pairs with the restored", 6, () -> x.overlapCount());
        c.due("none", 0, () -> new IntervalTree().overlapCount());
        IntervalTree y = new IntervalTree();
        for (int i = 0; i < 100; i++) {
            y.insert(3, 3, 0);
        }
        c.due("all pairs", 4950, () -> y.overlapCount());
    }

    private static void schedule() {
        IntervalTree x = some();
        c.due("sum", 17, () -> x.scheduleWeight());
        c.due("first", 1, () -> x.scheduled(0));
        c.due("second", 3, () -> x.scheduled(1));
        c.outOfBounds("third", () -> x.scheduled(2));
        c.outOfBounds("-1", () -> x.scheduled(-1));
        c.outOfBounds("MIN", () -> x.scheduled(MIN));
        c.outOfBounds("MAX", () -> x.scheduled(MAX));
        x.restore(4);
        c.due("sum with the restored", 109, () -> x.scheduleWeight());
        c.due("first with the restored", 4, () -> x.scheduled(0));
        c.due("empty sum", 0, () -> new IntervalTree().scheduleWeight());
        c.outOfBounds("empty schedule", () -> new IntervalTree().scheduled(0));
    }

    private static void scheduleTies() {
        IntervalTree x = new IntervalTree();
        x.insert(0, 5, 4);
        x.insert(0, 2, 4);
        x.insert(6, 8, 0);
        x.insert(8, 9, 1);
        c.due("sum", 5, () -> x.scheduleWeight());
        c.due("the later one of equals", 0, () -> x.scheduled(0));
        c.due("zero weights are left out", 3, () -> x.scheduled(1));
        c.outOfBounds("no third", () -> x.scheduled(2));
        x.addWeight(MIN, MAX, -10);
        c.due("all negative", 0, () -> x.scheduleWeight());
        c.outOfBounds("nothing scheduled", () -> x.scheduled(0));
    }

    private static void piercing() {
        IntervalTree x = some();
        c.due("0", 10, () -> x.piercingPoint(0));
        c.due("1", 30, () -> x.piercingPoint(1));
        c.outOfBounds("2", () -> x.piercingPoint(2));
        c.outOfBounds("-1", () -> x.piercingPoint(-1));
        c.outOfBounds("MIN", () -> x.piercingPoint(MIN));
        c.outOfBounds("MAX", () -> x.piercingPoint(MAX));
        c.outOfBounds("none", () -> new IntervalTree().piercingPoint(0));
        IntervalTree y = new IntervalTree();
        y.insert(0, 100, 0);
        y.insert(10, 20, 0);
        y.insert(15, 16, 0);
        y.insert(17, 40, 0);
        y.insert(30, 35, 0);
        y.insert(2, 3, 0);
        int[] points = {3, 16, 35};
        for (int i = 0; i < 3; i++) {
            final int n = i;
            c.due("nested " + i, points[n], () -> y.piercingPoint(n));
        }
        c.outOfBounds("nested 3", () -> y.piercingPoint(3));
    }

    private static void rangeFilters() {
        IntervalTree x = some();
        c.illegalArgument("property -1", () -> x.addRangeFilter(-1, 0, 0));
        c.illegalArgument("property 4", () -> x.addRangeFilter(4, 0, 0));
        c.illegalArgument("from > to", () -> x.addRangeFilter(0, 1, 0));
        c.due("low", 3, () -> x.addRangeFilter(0, 5, 10));
        c.due("high", 4, () -> x.addRangeFilter(1, 15, 20));
        c.due("weight", 5, () -> x.addRangeFilter(2, 5, 5));
        c.due("length", 6, () -> x.addRangeFilter(3, 0, 9));
        c.due("all ints", 7, () -> x.addRangeFilter(2, MIN, MAX));
        c.due("low count", 2, () -> x.matchCount(3));
        c.due("high count", 2, () -> x.matchCount(4));
        c.due("weight count", 2, () -> x.matchCount(5));
        c.due("length count", 1, () -> x.matchCount(6));
        c.due("all count", 4, () -> x.matchCount(7));
        x.addWeight(0, 0, 1);
        c.due("weights at the time of use", 1, () -> x.matchCount(5));
        c.due("least value", true, () -> x.accepts(3, 1));
        c.due("greatest value", true, () -> x.accepts(3, 2));
        c.due("below", false, () -> x.accepts(3, 0));
        c.due("above", false, () -> x.accepts(3, 3));
    }

    private static void heavierFilter() {
        IntervalTree x = some();
        c.due("heavier than 1", 3, () -> x.addHeavierFilter(1));
        c.due("heavier than a removed one", 4, () -> x.addHeavierFilter(4));
        c.due("count", 1, () -> x.matchCount(3));
        c.due("not itself", false, () -> x.accepts(3, 1));
        c.due("a removed one", true, () -> x.accepts(3, 4));
        x.addWeight(5, 5, 1000);
        c.due("the weight as it was", true, () -> x.accepts(3, 1));
        c.due("the others by their weights now", 2, () -> x.matchCount(3));
        x.remove(1);
        x.rebuild();
        c.due("also when it is gone", 1, () -> x.matchCount(3));
    }

    private static void combinedFilters() {
        IntervalTree x = some();
        x.addRangeFilter(0, 0, 5);
        x.addRangeFilter(2, 8, 9);
        c.illegalArgument("kind -1", () -> x.addCombinedFilter(-1, 0, 0));
        c.illegalArgument("kind 3", () -> x.addCombinedFilter(3, 0, 0));
        c.illegalArgument("first missing", () -> x.addCombinedFilter(0, 5, 0));
        c.illegalArgument("second missing", () -> x.addCombinedFilter(0, 0, 5));
        c.illegalArgument("first negative", () -> x.addCombinedFilter(0, -1, 0));
        c.illegalArgument("second negative", () -> x.addCombinedFilter(0, 0, MIN));
        c.due("both", 5, () -> x.addCombinedFilter(0, 3, 4));
        c.due("one of them", 6, () -> x.addCombinedFilter(1, 3, 4));
        c.due("first only", 7, () -> x.addCombinedFilter(2, 3, 4));
        String[] want = {"FTFF", "TTFT", "TFFF"};
        for (int f = 5; f <= 7; f++) {
            StringBuilder seen = new StringBuilder();
            for (int id = 0; id < 4; id++) {
                seen.append(x.accepts(f, id) ? 'T' : 'F');
            }
            c.due("combined " + f, want[f - 5], () -> seen.toString());
        }
        IntervalTree y = some();
        c.due("a filter without itself", 3, () -> y.addCombinedFilter(2, 0, 0));
        c.due("accepts nothing", 0, () -> y.matchCount(3));
        c.due("all without the points", 4, () -> y.addCombinedFilter(2, 0, 1));
        c.due("of a combined one", 5, () -> y.addCombinedFilter(1, 3, 4));
        c.due("of combined ones with the overlapping", 6, () -> y.addCombinedFilter(0, 5, 2));
        c.due("count", 3, () -> y.matchCount(6));
        y.remove(1);
        y.remove(2);
        c.due("overlaps at the time of use", 0, () -> y.matchCount(6));
    }

    private static void filterLimit() {
        IntervalTree x = points(1);
        for (int i = 3; i < 8; i++) {
            final int n = i;
            c.due("filter " + i, n, () -> x.addHeavierFilter(0));
        }
        c.illegalState("range", () -> x.addRangeFilter(0, 0, 0));
        c.illegalState("heavier", () -> x.addHeavierFilter(0));
        c.illegalState("combined", () -> x.addCombinedFilter(0, 0, 0));
        c.illegalState("text", () -> x.parseFilter());
        c.illegalArgument("range, wrong property first", () -> x.addRangeFilter(4, 0, 0));
        c.illegalArgument("range, wrong range first", () -> x.addRangeFilter(0, 1, 0));
        c.noSuchElement("heavier, wrong id first", () -> x.addHeavierFilter(1));
        c.illegalArgument("combined, wrong filter first", () -> x.addCombinedFilter(0, 0, 8));
        c.due("the last one exists", 0, () -> x.matchCount(7));
        c.illegalArgument("no filter 8", () -> x.matchCount(8));
    }

    private static void initialFilters() {
        IntervalTree x = some();
        c.due("all", 4, () -> x.matchCount(0));
        c.due("points", 1, () -> x.matchCount(1));
        c.due("overlapping", 3, () -> x.matchCount(2));
        c.due("a removed one overlaps live ones", true, () -> x.accepts(2, 4));
        x.insert(30, 30, 0);
        c.due("two equal points overlap", true, () -> x.accepts(2, 3));
        x.remove(5);
        c.due("a removed one does not count", false, () -> x.accepts(2, 3));
        c.due("but it overlaps itself", true, () -> x.accepts(2, 5));
    }

    private static void matching() {
        IntervalTree x = some();
        c.illegalArgument("filter -1", () -> x.matchCount(-1));
        c.illegalArgument("filter 3", () -> x.matchCount(3));
        c.illegalArgument("filter MAX", () -> x.matchCount(MAX));
        c.illegalArgument("accepts: filter first", () -> x.accepts(3, 77));
        c.illegalArgument("accepts: filter -1", () -> x.accepts(-1, 0));
        c.noSuchElement("accepts: id 5", () -> x.accepts(0, 5));
        c.due("accepts a removed one", true, () -> x.accepts(0, 4));
        c.due("does not count it", 4, () -> x.matchCount(0));
    }

    private static void cursors() {
        IntervalTree x = some();
        int[] wrong = {-1, 4, MIN, MAX};
        for (int cursor : wrong) {
            c.illegalArgument("open " + cursor, () -> x.open(cursor, 0));
            c.illegalArgument("hasNext " + cursor, () -> x.hasNext(cursor));
            c.illegalArgument("next " + cursor, () -> x.next(cursor));
            c.illegalArgument("removeCurrent " + cursor, () -> x.removeCurrent(cursor));
        }
        c.illegalArgument("open with filter 3", () -> x.open(0, 3));
        c.illegalArgument("open with filter -1", () -> x.open(0, -1));
        c.illegalState("closed: hasNext", () -> x.hasNext(0));
        c.illegalState("closed: next", () -> x.next(0));
        c.illegalState("closed: removeCurrent", () -> x.removeCurrent(0));
        c.due("open", 0, () -> x.open(0, 0));
        c.due("open another", 3, () -> x.open(3, 1));
        for (int i = 0; i < 4; i++) {
            final int n = i;
            c.due("hasNext " + i, true, () -> x.hasNext(0));
            c.due("next " + i, n, () -> x.next(0));
        }
        c.due("no more", false, () -> x.hasNext(0));
        c.noSuchElement("next at the end", () -> x.next(0));
        c.due("the other one", 3, () -> x.next(3));
        c.due("open again", 0, () -> x.open(0, 2));
        c.illegalArgument("a wrong open changes nothing", () -> x.open(0, 9));
        c.due("next of the overlapping", 0, () -> x.next(0));
        c.due("nothing to open", -1, () -> new IntervalTree().open(2, 0));
    }

    private static void cursorPositions() {
        IntervalTree x = new IntervalTree();
        x.insert(10, 10, 0);
        x.insert(20, 20, 0);
        x.insert(30, 30, 0);
        x.open(0, 0);
        x.next(0);
        x.insert(5, 5, 0);
        x.insert(10, 9 + 1, 0);
        c.due("an equal interval with a greater id comes after", 4, () -> x.next(0));
        x.insert(10, 15, 0);
        c.due("a greater high end comes after", 5, () -> x.next(0));
        x.insert(10, 12, 0);
        c.due("a smaller high end is passed", 1, () -> x.next(0));
        x.remove(1);
        x.rebuild();
        c.due("the position stays when its interval is gone", 2, () -> x.next(0));
        c.due("end", false, () -> x.hasNext(0));
        x.insert(30, 31, 0);
        c.due("an interval behind the end", 7, () -> x.next(0));
        x.open(1, 0);
        x.remove(3);
        c.due("removed ones are passed", 0, () -> x.next(1));
        x.restore(3);
        c.due("a restored one before the position is passed", 4, () -> x.next(1));
    }

    private static void removeCurrent() {
        IntervalTree x = points(5);
        x.open(0, 0);
        c.illegalState("before next", () -> x.removeCurrent(0));
        x.next(0);
        c.due("removes 0", 4, () -> x.removeCurrent(0));
        c.due("state 0", 1, () -> x.state(0));
        c.illegalState("twice", () -> x.removeCurrent(0));
        x.restore(0);
        c.due("restored, so again", 4, () -> x.removeCurrent(0));
        c.due("next goes on", 1, () -> x.next(0));
        c.due("removes 1", 3, () -> x.removeCurrent(0));
        c.due("no rebuild", 0, () -> x.rebuildCount());
        x.next(0);
        c.due("removes 2", 2, () -> x.removeCurrent(0));
        c.due("rebuild", 1, () -> x.rebuildCount());
        c.illegalState("gone", () -> x.removeCurrent(0));
        c.due("the position stays", 3, () -> x.next(0));
        x.remove(3);
        c.illegalState("removed otherwise", () -> x.removeCurrent(0));
        x.open(0, 0);
        c.illegalState("opened anew", () -> x.removeCurrent(0));
        c.due("next", 4, () -> x.next(0));
        c.noSuchElement("no next", () -> x.next(0));
        c.due("the one that was returned last", 0, () -> x.removeCurrent(0));
    }

    private static void saveAndLoad() {
        IntervalTree x = points(6);
        x.remove(5);
        x.setRebuildPercentage(60);
        x.addWeight(0, 0, 5);
        c.due("save", 5, () -> x.save());
        int digest = x.digest();
        x.insert(100, 100, 1);
        x.addWeight(MIN, MAX, 100);
        x.remove(0);
        x.rebuild();
        x.setRebuildPercentage(10);
        x.addRangeFilter(0, 0, 0);
        Checks.feed(x, "w=1");
        c.due("load", 5, () -> x.load());
        c.due("digest", digest, () -> x.digest());
        c.due("rebuildCount", 0, () -> x.rebuildCount());
        c.due("rebuiltNodes", 0, () -> x.rebuiltNodes());
        c.due("weight 0", 5, () -> x.weight(0));
        c.due("weight 1", 0, () -> x.weight(1));
        c.due("state 5", 1, () -> x.state(5));
        c.noSuchElement("6 was not inserted", () -> x.state(6));
        c.due("filters stay", 1, () -> x.matchCount(3));
        c.due("text stays", 4, () -> x.parseFilter());
        c.due("percentage", 60, () -> x.setRebuildPercentage(61));
        c.due("ids are assigned again", 6, () -> x.insert(-1, -1, 0));
        x.remove(1);
        x.addWeight(MIN, MAX, 1);
        c.due("load again", 5, () -> x.load());
        c.due("the copy was not touched", digest, () -> x.digest());
        c.due("nor its weights", 0, () -> x.weight(2));
        c.due("restore after load", 6, () -> x.restore(5));
        x.rebuild();
        c.due("save replaces", 6, () -> x.save());
        x.remove(0);
        c.due("load the new copy", 6, () -> x.load());
        c.due("rebuilds of the new copy", 1, () -> x.rebuildCount());
        c.due("rebuilt nodes of the new copy", 6, () -> x.rebuiltNodes());
        IntervalTree y = new IntervalTree();
        c.due("save nothing", 0, () -> y.save());
        y.insert(0, 0, 0);
        c.due("load nothing", 0, () -> y.load());
        c.due("first id again", 0, () -> y.insert(3, 3, 3));
        IntervalTree z = points(3);
        z.save();
        z.insert(7, 7, 0);
        z.save();
        z.remove(0);
        z.rebuild();
        z.load();
        c.due("gone is back in the tree", 0, () -> z.state(0));
        c.due("parents are back", "1,-1,1,2",
                () -> z.parent(0) + "," + z.parent(1) + "," + z.parent(2) + "," + z.parent(3));
    }

    private static void loadClosesCursors() {
        IntervalTree x = points(3);
        for (int i = 0; i < 4; i++) {
            x.open(i, 0);
        }
        c.illegalState("load without a copy", () -> x.load());
        c.due("a load that throws closes nothing", true, () -> x.hasNext(0));
        x.save();
        c.due("save closes nothing", 0, () -> x.next(1));
        x.load();
        for (int i = 0; i < 4; i++) {
            final int n = i;
            c.illegalState("hasNext " + i, () -> x.hasNext(n));
            c.illegalState("next " + i, () -> x.next(n));
            c.illegalState("removeCurrent " + i, () -> x.removeCurrent(n));
        }
        c.due("open again", 0, () -> x.open(1, 0));
    }
}
