/** Intervals and rebuilds, and the calls that change them: promises 1 to 7. */
final class ChangeBoundaries {
    private static final int MIN = Samples.MIN;
    private static final int MAX = Samples.MAX;

    private final Sentences s;

    ChangeBoundaries(Sentences s) {
        this.s = s;
    }

    void test() {
        intervals();
        queriesOfRemoved();
        rebuilds();
        rebuiltShapes();
        rebuildsAfterRemovals();
        rebuildsBeforeInsertions();
        newObject();
        insert();
        insertRefused();
        remove();
        restore();
        rebuild();
        percentage();
        addWeight();
        addWeightRefused();
    }

    private void intervals() {
        s.in("Intervals");
        s.says("An interval has an id, a low end, a high end and a weight.");
        IntervalTree x = new IntervalTree();
        s.due("id", 0, () -> x.insert(-7, 12, 345));
        s.due("low end", -7, () -> x.low(0));
        s.due("high end", 12, () -> x.high(0));
        s.due("weight", 345, () -> x.weight(0));

        s.says("It contains all integers from its low end to its high end, both included.");
        IntervalTree y = Samples.of(Samples.row(3, 6, 1), Samples.row(-1000, -1000, 1), Samples.row(1000, 1000, 1));
        int[] points = {2, 3, 4, 5, 6, 7, -1001, -1000, -999, 999, 1000, 1001};
        String contained = "011110010010";
        for (int i = 0; i < points.length; i++) {
            int point = points[i];
            s.due("at " + point, contained.charAt(i), () -> y.stabCount(point));
        }

        s.says("Two intervals, or an interval and a range, overlap if they have an integer in common.");
        s.due("one end in common", 1, () -> Samples.of(Samples.row(0, 5, 0), Samples.row(5, 9, 0)).overlapCount());
        s.due("side by side", 0, () -> Samples.of(Samples.row(0, 5, 0), Samples.row(6, 9, 0)).overlapCount());
        s.due("one inside", 1, () -> Samples.of(Samples.row(0, 9, 0), Samples.row(3, 4, 0)).overlapCount());
        s.due("equal points", 1, () -> Samples.of(Samples.row(4, 4, 0), Samples.row(4, 4, 0)).overlapCount());
        IntervalTree z = Samples.of(Samples.row(10, 20, 0));
        s.due("a range that ends before it", -1, () -> z.firstOverlap(0, 9));
        s.due("a range that ends at its low end", 0, () -> z.firstOverlap(0, 10));
        s.due("a range that begins at its high end", 0, () -> z.firstOverlap(20, 30));
        s.due("a range that begins behind it", -1, () -> z.firstOverlap(21, 30));
        s.due("a range inside", 0, () -> z.firstOverlap(12, 13));
        s.due("a range around", 0, () -> z.firstOverlap(0, 40));
        ids();
        lives();
    }

    private void ids() {
        s.says("Ids are assigned from 0 in the order of insertion and are not reused.");
        IntervalTree x = new IntervalTree();
        s.due("the first", 0, () -> x.insert(9, 9, 0));
        s.due("the second, with a smaller key", 1, () -> x.insert(8, 8, 0));
        s.illegalArgument("a refused one", () -> x.insert(8, 7, 0));
        s.due("the third", 2, () -> x.insert(9, 9, 0));
        x.remove(2);
        s.due("after a removal", 3, () -> x.insert(9, 9, 0));
        x.rebuild();
        s.due("after a rebuild", 4, () -> x.insert(9, 9, 0));
        for (int id : new int[] {0, 1, 3, 4}) {
            x.remove(id);
        }
        s.due("none is left", 0, () -> x.nodeCount());
        s.due("after all are gone", 5, () -> x.insert(9, 9, 0));

        s.says("The key of an interval is the triple (low end, high end, id)");
        IntervalTree y = Samples.of(Samples.row(5, 9, 0), Samples.row(5, 7, 0), Samples.row(4, 100, 0),
                Samples.row(5, 7, 0), Samples.row(6, 6, 0), Samples.row(-1000, 1000, 0));
        int[] order = {5, 2, 1, 3, 0, 4};
        for (int i = 0; i < order.length; i++) {
            int k = i;
            s.due("place " + k, order[k], () -> y.select(k));
        }
    }

    private void lives() {
        s.says("An inserted interval is live until it is removed.");
        IntervalTree x = Samples.points(1);
        s.due("inserted", 0, () -> x.state(0));
        for (int i = 1; i < 8; i++) {
            x.insert(i, i, 0);
        }
        x.remove(1);
        x.rebuild();
        s.due("after others were inserted and removed", 0, () -> x.state(0));
        x.remove(0);
        s.due("removed", 1, () -> x.state(0));

        s.says("A removed interval remains in the tree, marked as removed, until the next rebuild");
        IntervalTree y = Samples.points(4);
        y.remove(1);
        s.due("nodes", 4, () -> y.nodeCount());
        y.insert(1, 1, 0);
        y.addWeight(MIN, MAX, 3);
        s.due("marked", 1, () -> y.state(1));
        y.rebuild();
        s.due("gone by a call of rebuild", 2, () -> y.state(1));
        y.remove(0);
        y.remove(2);
        s.due("marked too", 1, () -> y.state(0));
        y.remove(3);
        s.due("gone by a removal", 2, () -> y.state(0));
        s.due("gone at its own removal", 2, () -> y.state(3));
        IntervalTree z = Samples.hundred(1);
        s.due("marked in a full tree", 1, () -> z.state(0));
        z.insert(0, 0, 0);
        s.due("gone by an insertion", 2, () -> z.state(0));

        s.says("An interval is in the tree if it is live, or removed but not gone.");
        IntervalTree m = Samples.mixed();
        s.due("live", 1, () -> m.low(1));
        s.due("removed", 2, () -> m.low(2));
        s.noSuchElement("gone", () -> m.low(0));
    }

    private void queriesOfRemoved() {
        s.says("Queries consider live intervals only, unless stated otherwise.");
        noneLive("new", new IntervalTree());
        noneLive("only removed", Samples.onlyRemoved());
        noneLive("only gone", Samples.onlyGone());
        IntervalTree x = Samples.of(Samples.row(0, 9, 50), Samples.row(2, 4, 1), Samples.row(0, 0, 70));
        x.remove(0);
        s.due("stabCount beside a removed one", 1, () -> x.stabCount(3));
        s.due("stabWeight beside a removed one", 1, () -> x.stabWeight(3));
        s.due("heaviest beside a removed one", 1, () -> x.heaviest(3, 0));
        s.due("heaviestOverlap beside a removed one", 1, () -> x.heaviestOverlap(1, 9, 0));
        s.due("firstOverlap beside a removed one", 1, () -> x.firstOverlap(1, 9));
        s.due("floor beside a removed one", 2, () -> x.floor(1));
        s.due("ceiling beside a removed one", 2, () -> x.ceiling(0));
        s.due("rank beside a removed one", 1, () -> x.rank(1));
        s.due("select beside a removed one", 1, () -> x.select(1));
        s.due("nearest beside a removed one", 1, () -> x.nearest(8));
        s.due("covered beside a removed one", 4, () -> x.covered(0, 9));
        s.due("deepestPoint beside a removed one", 0, () -> x.deepestPoint());
        s.due("overlapCount beside a removed one", 0, () -> x.overlapCount());
        s.due("scheduleWeight beside a removed one", 71, () -> x.scheduleWeight());
        s.due("scheduled beside a removed one", 2, () -> x.scheduled(0));
        s.due("piercingPoint beside a removed one", 4, () -> x.piercingPoint(1));
        s.due("matchCount beside a removed one", 0, () -> x.matchCount(2));
        s.due("subtreeSize beside a removed one", 2, () -> x.subtreeSize(0));
    }

    private void noneLive(String name, IntervalTree x) {
        s.due(name + ": size", 0, () -> x.size());
        s.due(name + ": stabCount", 0, () -> x.stabCount(5));
        s.due(name + ": stabWeight", 0, () -> x.stabWeight(5));
        s.due(name + ": heaviest", -1, () -> x.heaviest(5, 0));
        s.due(name + ": heaviestOverlap", -1, () -> x.heaviestOverlap(MIN, MAX, 0));
        s.due(name + ": firstOverlap", -1, () -> x.firstOverlap(MIN, MAX));
        s.due(name + ": floor", -1, () -> x.floor(MAX));
        s.due(name + ": ceiling", -1, () -> x.ceiling(MIN));
        s.noSuchElement(name + ": rank", () -> x.rank(0));
        s.outOfBounds(name + ": select", () -> x.select(0));
        s.due(name + ": nearest", -1, () -> x.nearest(5));
        s.due(name + ": covered", 0, () -> x.covered(-2000, 2000));
        s.noSuchElement(name + ": deepestPoint", () -> x.deepestPoint());
        s.due(name + ": overlapCount", 0, () -> x.overlapCount());
        s.due(name + ": scheduleWeight", 0, () -> x.scheduleWeight());
        s.outOfBounds(name + ": scheduled", () -> x.scheduled(0));
        s.outOfBounds(name + ": piercingPoint", () -> x.piercingPoint(0));
        for (int f = 0; f < 3; f++) {
            int filter = f;
            s.due(name + ": matchCount " + f, 0, () -> x.matchCount(filter));
        }
        s.due(name + ": open", -1, () -> x.open(0, 0));
        s.due(name + ": hasNext", false, () -> x.hasNext(0));
        s.noSuchElement(name + ": next", () -> x.next(0));
        s.due(name + ": addWeight counts", 0, () -> x.addWeight(MIN, MAX, 1));
    }

    private void rebuilds() {
        s.in("Rebuild");
        s.says("A rebuild takes all live intervals in ascending order of their keys and builds a new tree of them");
        IntervalTree x = Samples.of(Samples.row(7, 9, 0), Samples.row(3, 3, 0), Samples.row(9, 9, 0),
                Samples.row(1, 1, 0), Samples.row(5, 5, 0), Samples.row(7, 8, 0), Samples.row(2, 2, 0));
        x.remove(1);
        x.remove(2);
        x.rebuild();
        s.due("shape of 1 2 5 7 7", "5B(2B(1R,-),7B(7R,-))", () -> Samples.shape(x));
        s.due("the smaller of two equal low ends", 5, () -> x.child(0, false));
        s.due("a removed one is gone", 2, () -> x.state(1));
        s.due("another one is gone", 2, () -> x.state(2));

        s.says("It happens, and counts, also if no interval is live, or none is removed.");
        IntervalTree none = new IntervalTree();
        s.due("nothing at all", 0, () -> none.rebuild());
        s.due("count of nothing", 1, () -> none.rebuildCount());
        IntervalTree allLive = Samples.points(3);
        s.due("none removed", 0, () -> allLive.rebuild());
        s.due("count of none removed", 1, () -> allLive.rebuildCount());
        s.due("shape of none removed", "1B(0B,2B)", () -> Samples.shape(allLive));
        IntervalTree allRemoved = Samples.onlyRemoved();
        s.due("none live", 2, () -> allRemoved.rebuild());
        s.due("count of none live", 1, () -> allRemoved.rebuildCount());
        s.due("nodes of none live", 0, () -> allRemoved.nodeCount());
        s.due("height of none live", 0, () -> allRemoved.height());
        IntervalTree one = Samples.points(1);
        s.due("the only one is removed", 0, () -> one.remove(0));
        s.due("count of a removal of the only one", 1, () -> one.rebuildCount());
        IntervalTree full = Samples.hundred(100);
        s.due("an insertion, none live", 100, () -> full.insert(5, 5, 0));
        s.due("count of an insertion, none live", 1, () -> full.rebuildCount());
        s.due("only the new node", 1, () -> full.nodeCount());
        s.due("the new node is the black root", "5B", () -> full.low(100) + (full.isRed(100) ? "R" : "B"));

        s.says("The rebuild percentage is initially 50.");
        s.due("as told", 50, () -> new IntervalTree().setRebuildPercentage(10));
        IntervalTree two = Samples.points(2);
        two.remove(0);
        s.due("half are removed", 0, () -> two.rebuildCount());
        IntervalTree three = Samples.points(3);
        three.remove(0);
        three.remove(1);
        s.due("more than half are removed", 1, () -> three.rebuildCount());
    }

    /** The shape by the document's words: the elements a to b, each a point with its id as low end. */
    private static String built(int a, int b, int depth, int count) {
        if (a >= b) {
            return "-";
        }
        int root = Math.floorDiv(a + b, 2);
        int deepest = 0;
        while ((1 << deepest + 1) <= count) {
            deepest++;
        }
        boolean fullLevel = count - ((1 << deepest) - 1) == 1 << deepest;
        String node = root + (depth == deepest && !fullLevel ? "R" : "B");
        String left = built(a, root, depth + 1, count);
        String right = built(root + 1, b, depth + 1, count);
        return left.equals("-") && right.equals("-") ? node : node + "(" + left + "," + right + ")";
    }

    private void rebuiltShapes() {
        s.says("The root of the tree of the elements a (included) to b (excluded) is the element (a + b) / 2");
        for (int count = 1; count <= 100; count++) {
            IntervalTree x = Samples.points(count);
            x.rebuild();
            s.due(count + " points", built(0, count, 0, count), () -> Samples.shape(x));
        }

        s.says("All nodes become black, except that the nodes of the deepest level become red if that level is not");
        String[] shapes = {"0B", "1B(0R,-)", "1B(0B,2B)", "2B(1B(0R,-),3B)", "2B(1B(0R,-),4B(3R,-))",
            "3B(1B(0R,2R),5B(4R,-))", "3B(1B(0B,2B),5B(4B,6B))", "4B(2B(1B(0R,-),3B),6B(5B,7B))"};
        for (int i = 0; i < shapes.length; i++) {
            IntervalTree x = Samples.points(i + 1);
            x.rebuild();
            s.due((i + 1) + " points", shapes[i], () -> Samples.shape(x));
        }
        IntervalTree again = Samples.points(6);
        again.rebuild();
        again.insert(6, 6, 0);
        again.rebuild();
        s.due("red ones become black again", "3B(1B(0B,2B),5B(4B,6B))", () -> Samples.shape(again));

        s.says("A level of depth d is full if it has 2 to the power d nodes.");
        for (int d = 0; d <= 5; d++) {
            int full = (2 << d) - 1;
            int depth = d;
            s.due("full level " + d, 0, () -> redsAfterRebuild(full));
            s.due("one node on level " + (d + 1), 1, () -> redsAfterRebuild(full + 1));
            if (d > 0) {
                s.due("one node is missing on level " + d, (1 << depth) - 1, () -> redsAfterRebuild(full - 1));
            }
        }
    }

    private static int redsAfterRebuild(int count) {
        IntervalTree x = Samples.points(count);
        x.rebuild();
        int reds = 0;
        for (int id = 0; id < count; id++) {
            reds += x.isRed(id) ? 1 : 0;
        }
        return reds;
    }

    private void rebuildsAfterRemovals() {
        s.says("A rebuild happens when rebuild is called; after a removal, if 100 times the number of removed");
        IntervalTree called = Samples.points(2);
        called.rebuild();
        s.due("called", 1, () -> called.rebuildCount());
        for (int percentage : new int[] {10, 11, 20, 33, 34, 50, 66, 67, 99, 100}) {
            for (int nodes : new int[] {1, 2, 3, 4, 7, 10, 11, 30, 99, 100}) {
                IntervalTree x = Samples.points(nodes);
                x.setRebuildPercentage(percentage);
                int removed = 0;
                while (removed < nodes && x.rebuildCount() == 0) {
                    x.remove(removed);
                    removed++;
                }
                int first = percentage * nodes / 100 + 1;
                s.same("rebuild of " + nodes + " at " + percentage, first <= nodes ? first : nodes, removed);
                s.due("count of " + nodes + " at " + percentage, first <= nodes ? 1 : 0, () -> x.rebuildCount());
            }
        }
        IntervalTree y = Samples.points(10);
        y.setRebuildPercentage(20);
        y.remove(0);
        y.remove(1);
        y.restore(0);
        y.remove(2);
        s.due("restored ones do not count", 0, () -> y.rebuildCount());
        y.remove(3);
        s.due("but the removed ones do", 1, () -> y.rebuildCount());
        y.remove(4);
        s.due("gone ones do not count, 100 is not greater than 140", 1, () -> y.rebuildCount());
        y.remove(5);
        s.due("200 is greater than 140", 2, () -> y.rebuildCount());
    }

    private void rebuildsBeforeInsertions() {
        IntervalTree x = Samples.points(99);
        x.remove(5);
        x.insert(5, 5, 0);
        s.due("99 nodes, one of them removed", 0, () -> x.rebuildCount());
        s.due("a hundred nodes now", 100, () -> x.nodeCount());
        s.illegalArgument("a refused insertion", () -> x.insert(5, 5, 1000));
        s.due("no rebuild by a refused insertion", 0, () -> x.rebuildCount());
        s.due("still removed", 1, () -> x.state(5));
        s.due("100 nodes, one of them removed", 100, () -> x.insert(5, 5, 0));
        s.due("a rebuild by an insertion", 1, () -> x.rebuildCount());
        s.illegalState("100 nodes, none of them removed", () -> x.insert(5, 5, 0));
        s.due("no rebuild when none is removed", 1, () -> x.rebuildCount());
        Sights.alike(s, "a rebuild comes before the insertion", () -> {
            IntervalTree called = Samples.hundred(3);
            called.rebuild();
            called.insert(50, 51, 9);
            return called;
        }, () -> {
            IntervalTree caused = Samples.hundred(3);
            caused.insert(50, 51, 9);
            return caused;
        });
    }

    private void newObject() {
        s.in("1");
        s.says("Creates an empty tree.");
        IntervalTree x = new IntervalTree();
        s.due("size", 0, () -> x.size());
        s.due("nodeCount", 0, () -> x.nodeCount());
        s.due("height", 0, () -> x.height());
        s.due("rebuildCount", 0, () -> x.rebuildCount());
        s.due("rebuiltNodes", 0, () -> x.rebuiltNodes());
        s.due("digest", -1, () -> x.digest());
        s.noSuchElement("no interval was inserted", () -> x.state(0));
        s.illegalState("no copy", () -> x.load());
        s.due("no text", -100, () -> x.parseFilter());
        s.due("objects share nothing", 0, () -> {
            Samples.busy();
            return new IntervalTree().insert(0, 0, 0);
        });
    }

    private void insert() {
        s.in("2");
        s.says("Inserts an interval.");
        IntervalTree x = new IntervalTree();
        x.insert(4, 6, 8);
        s.due("live", 0, () -> x.state(0));
        s.due("size", 1, () -> x.size());
        x.insert(4, 6, 8);
        s.due("an equal one is another one", 2, () -> x.size());

        s.says("It may cause a rebuild before the insertion.");
        IntervalTree y = Samples.hundred(1);
        y.insert(0, 0, 0);
        s.due("count", 1, () -> y.rebuildCount());
        s.due("nodes without the new one", 99, () -> y.rebuiltNodes());
        s.due("nodes with the new one", 100, () -> y.nodeCount());

        s.says("- `low`: the low end, -1000 to 1000");
        s.due("the least", 0, () -> new IntervalTree().insert(-1000, 0, 0));
        s.due("the greatest", 0, () -> new IntervalTree().insert(1000, 1000, 0));
        s.illegalArgument("below the least", () -> new IntervalTree().insert(-1001, 0, 0));
        s.illegalArgument("above the greatest", () -> new IntervalTree().insert(1001, 1001, 0));
        s.illegalArgument("above the greatest, high end in range", () -> new IntervalTree().insert(1001, 1000, 0));
        s.illegalArgument("MIN", () -> new IntervalTree().insert(MIN, 0, 0));
        s.illegalArgument("MAX", () -> new IntervalTree().insert(MAX, MAX, 0));
        s.due("kept", -1000, () -> Samples.of(Samples.row(-1000, 0, 0)).low(0));

        s.says("- `high`: the high end, low to 1000");
        s.due("the least", 0, () -> new IntervalTree().insert(7, 7, 0));
        s.due("the greatest", 0, () -> new IntervalTree().insert(7, 1000, 0));
        s.due("the least of all", 0, () -> new IntervalTree().insert(-1000, -1000, 0));
        s.due("the widest", 0, () -> new IntervalTree().insert(-1000, 1000, 0));
        s.illegalArgument("below the least", () -> new IntervalTree().insert(7, 6, 0));
        s.illegalArgument("above the greatest", () -> new IntervalTree().insert(7, 1001, 0));
        s.illegalArgument("below all", () -> new IntervalTree().insert(-1000, -1001, 0));
        s.illegalArgument("MIN", () -> new IntervalTree().insert(7, MIN, 0));
        s.illegalArgument("MAX", () -> new IntervalTree().insert(7, MAX, 0));
        s.due("kept", 1000, () -> Samples.of(Samples.row(7, 1000, 0)).high(0));

        s.says("- `weight`: the weight, 0 to 999");
        s.due("the least", 0, () -> new IntervalTree().insert(0, 0, 0));
        s.due("the greatest", 0, () -> new IntervalTree().insert(0, 0, 999));
        s.illegalArgument("below the least", () -> new IntervalTree().insert(0, 0, -1));
        s.illegalArgument("above the greatest", () -> new IntervalTree().insert(0, 0, 1000));
        s.illegalArgument("MIN", () -> new IntervalTree().insert(0, 0, MIN));
        s.illegalArgument("MAX", () -> new IntervalTree().insert(0, 0, MAX));
        s.due("kept", 999, () -> Samples.of(Samples.row(0, 0, 999)).weight(0));

        s.says("Returns the id of the interval.");
        IntervalTree z = Samples.points(2);
        s.due("the next one", 2, () -> z.insert(-5, 5, 1));
        s.due("its low end", -5, () -> z.low(2));
    }

    private void insertRefused() {
        s.says("Throws `IllegalArgumentException` if an argument is out of range");
        int[][] wrong = {{-1001, 0, 0}, {1001, 1001, 0}, {0, -1, 0}, {0, 1001, 0}, {0, 0, -1}, {0, 0, 1000},
            {-1001, 1001, 1000}, {MIN, MAX, 0}, {MAX, MIN, 0}, {0, MIN, MIN}};
        for (int[] row : wrong) {
            String what = row[0] + ", " + row[1] + ", " + row[2];
            s.illegalArgument(what, () -> new IntervalTree().insert(row[0], row[1], row[2]));
            s.illegalArgument(what + " into a full tree", () -> Samples.hundred(0).insert(row[0], row[1], row[2]));
            s.illegalArgument(what + " with a removed one", () -> Samples.hundred(1).insert(row[0], row[1], row[2]));
        }
        Sights.unchanged(s, "a refused insertion", () -> Samples.hundred(1), x -> x.insert(0, 0, 1000));

        s.says("Throws `IllegalStateException` if there are 100 nodes and none of their intervals is removed, or if");
        IntervalTree x = Samples.points(98);
        s.due("98 nodes", 98, () -> x.insert(5, 5, 0));
        s.due("99 nodes", 99, () -> x.insert(5, 5, 0));
        s.illegalState("100 nodes", () -> x.insert(5, 5, 0));
        x.remove(0);
        x.restore(0);
        s.illegalState("100 nodes, one of them restored", () -> x.insert(5, 5, 0));
        x.remove(0);
        s.due("100 nodes, one of them removed", 100, () -> x.insert(5, 5, 0));
        s.illegalState("100 nodes again", () -> x.insert(5, 5, 0));
        x.remove(1);
        x.rebuild();
        s.due("99 nodes by a rebuild", 101, () -> x.insert(5, 5, 0));
        Sights.unchanged(s, "an insertion into a full tree", () -> Samples.hundred(0), y -> y.insert(5, 5, 0));
        fiveHundred(0);
        fiveHundred(60);
    }

    /** No run of 512 calls can insert 500 intervals, because 400 of them must be removed; the limit holds anyway. */
    private void fiveHundred(int kept) {
        IntervalTree x = new IntervalTree();
        x.setRebuildPercentage(100);
        for (int i = 0; i < 499; i++) {
            int id = x.insert(0, 0, 0);
            if (i >= kept) {
                x.remove(id);
            }
        }
        int rebuilds = x.rebuildCount();
        s.due("the last one with " + kept + " kept", 499, () -> x.insert(0, 0, 0));
        s.illegalState("500 were inserted, " + kept + " kept", () -> x.insert(0, 0, 0));
        s.illegalArgument("a wrong argument comes first", () -> x.insert(0, 0, -1));
        s.due("no rebuild by the refused ones", rebuilds, () -> x.rebuildCount());
        s.due("the last id", 0, () -> x.state(499));
        s.noSuchElement("no id behind it", () -> x.state(500));
        x.rebuild();
        s.illegalState("500 were inserted, after a rebuild", () -> x.insert(0, 0, 0));
        s.due("live ones", kept + 1, () -> x.size());
    }

    private void remove() {
        s.in("3");
        s.says("Removes an interval.");
        IntervalTree x = Samples.points(3);
        x.remove(1);
        s.due("removed", 1, () -> x.state(1));
        s.due("not the one before", 0, () -> x.state(0));
        s.due("not the one behind", 0, () -> x.state(2));

        s.says("It may cause a rebuild after the removal.");
        IntervalTree y = Samples.points(4);
        y.remove(0);
        y.remove(1);
        s.due("two of four", 0, () -> y.rebuildCount());
        y.remove(2);
        s.due("three of four", 1, () -> y.rebuildCount());
        s.due("without the removed one", 1, () -> y.rebuiltNodes());
        s.due("the removed one is gone", 2, () -> y.state(2));

        s.says("- `id`: the id of a live interval");
        s.due("the least", 2, () -> Samples.points(3).remove(0));
        s.due("the greatest", 2, () -> Samples.points(3).remove(2));

        s.says("Returns the number of live intervals afterwards.");
        IntervalTree z = Samples.points(3);
        s.due("two", 2, () -> z.remove(2));
        s.due("one, with a rebuild", 1, () -> z.remove(1));
        s.due("none", 0, () -> z.remove(0));

        s.says("Throws `NoSuchElementException` if there is no live interval with this id");
        IntervalTree m = Samples.mixed();
        for (int id : Samples.absentFromMixed()) {
            s.noSuchElement("id " + id, () -> m.remove(id));
        }
        s.noSuchElement("a removed one", () -> m.remove(2));
        s.noSuchElement("a gone one", () -> m.remove(0));
        s.noSuchElement("an empty tree", () -> new IntervalTree().remove(0));
        s.due("live ones", 2, () -> m.size());
        Sights.unchanged(s, "a removal of a removed one", Samples::mixed, t -> t.remove(2));
    }

    private void restore() {
        s.in("4");
        s.says("Makes a removed interval that is in the tree live again, with its present weight.");
        IntervalTree x = Samples.of(Samples.row(1, 2, 5), Samples.row(3, 4, 6), Samples.row(5, 6, 7));
        x.remove(0);
        x.addWeight(1, 3, -100);
        int nodes = x.nodeCount();
        x.restore(0);
        s.due("live", 0, () -> x.state(0));
        s.due("its weight", -95, () -> x.weight(0));
        s.due("no node more", nodes, () -> x.nodeCount());
        s.due("no rebuild", 0, () -> x.rebuildCount());
        s.due("seen by queries", -95, () -> x.stabWeight(2));

        s.says("- `id`: the id of a removed interval");
        IntervalTree y = Samples.hundred(100);
        s.due("the least", 1, () -> y.restore(0));
        s.due("the greatest", 2, () -> y.restore(99));

        s.says("Returns the number of live intervals afterwards.");
        IntervalTree z = Samples.onlyRemoved();
        s.due("one", 1, () -> z.restore(1));
        s.due("two", 2, () -> z.restore(0));

        s.says("Throws `NoSuchElementException` if no interval with this id was inserted");
        IntervalTree m = Samples.mixed();
        for (int id : new int[] {-1, 4, 499, 500, MIN, MAX}) {
            s.noSuchElement("id " + id, () -> m.restore(id));
        }
        s.noSuchElement("an empty tree", () -> new IntervalTree().restore(0));

        s.says("Throws `IllegalStateException` if the interval is live or gone");
        s.illegalState("live", () -> m.restore(1));
        s.illegalState("gone", () -> m.restore(0));
        m.restore(2);
        s.illegalState("restored", () -> m.restore(2));
        s.due("live ones", 3, () -> m.size());
        Sights.unchanged(s, "a restoration of a live one", Samples::mixed, t -> t.restore(1));
        Sights.unchanged(s, "a restoration of a gone one", Samples::mixed, t -> t.restore(0));
    }

    private void rebuild() {
        s.in("5");
        s.says("Rebuilds the tree.");
        IntervalTree x = Samples.points(7);
        s.due("before", "1B(0B,3R(2B,5B(4R,6R)))", () -> Samples.shape(x));
        x.rebuild();
        s.due("after", "3B(1B(0B,2B),5B(4B,6B))", () -> Samples.shape(x));
        s.due("counted", 1, () -> x.rebuildCount());
        s.due("ends stay", "6 6 0", () -> x.low(6) + " " + x.high(6) + " " + x.weight(6));

        s.says("Returns the number of intervals that are gone by this.");
        s.due("none removed", 0, () -> x.rebuild());
        x.remove(0);
        x.remove(6);
        s.due("two removed", 2, () -> x.rebuild());
        s.due("gone before", 0, () -> x.rebuild());
        s.due("no nodes", 0, () -> new IntervalTree().rebuild());
        s.due("all removed", 100, () -> Samples.hundred(100).rebuild());
    }

    private void percentage() {
        s.in("6");
        s.says("Sets the rebuild percentage.");
        IntervalTree x = Samples.points(10);
        x.setRebuildPercentage(10);
        x.remove(0);
        s.due("100 is not greater than 100", 0, () -> x.rebuildCount());
        x.remove(1);
        s.due("200 is greater than 100", 1, () -> x.rebuildCount());

        s.says("This causes no rebuild.");
        IntervalTree y = Samples.hundred(60);
        y.setRebuildPercentage(10);
        s.due("count", 0, () -> y.rebuildCount());
        s.due("nodes", 100, () -> y.nodeCount());
        y.restore(0);
        s.due("nor does a restoration", 0, () -> y.rebuildCount());
        y.remove(0);
        s.due("the next removal does", 1, () -> y.rebuildCount());

        s.says("- `percentage`: the rebuild percentage, 10 to 100");
        s.due("the least", 50, () -> new IntervalTree().setRebuildPercentage(10));
        s.due("the greatest", 50, () -> new IntervalTree().setRebuildPercentage(100));

        s.says("Returns the previous rebuild percentage.");
        IntervalTree z = new IntervalTree();
        s.due("the initial one", 50, () -> z.setRebuildPercentage(10));
        s.due("the least", 10, () -> z.setRebuildPercentage(100));
        s.due("the greatest", 100, () -> z.setRebuildPercentage(100));
        z.rebuild();
        s.due("the same again, after a rebuild", 100, () -> z.setRebuildPercentage(77));

        s.says("Throws `IllegalArgumentException` if percentage is out of range");
        for (int wrong : new int[] {9, 101, 0, -10, -50, MIN, MAX}) {
            s.illegalArgument("percentage " + wrong, () -> z.setRebuildPercentage(wrong));
        }
        s.due("unchanged", 77, () -> z.setRebuildPercentage(50));
    }

    private void addWeight() {
        s.in("7");
        s.says("Adds a number to the weight of each interval in the tree, live or removed, whose low end is in a");
        IntervalTree x = Samples.of(Samples.row(0, 9, 5), Samples.row(1, 9, 999), Samples.row(2, 9, 0),
                Samples.row(3, 9, 7), Samples.row(2, 2, 1));
        x.remove(2);
        x.addWeight(1, 2, 1000);
        s.due("low end before the range", 5, () -> x.weight(0));
        s.due("low end at its beginning, greater than 999", 1999, () -> x.weight(1));
        s.due("removed, low end at its end", 1000, () -> x.weight(2));
        s.due("low end behind the range", 7, () -> x.weight(3));
        s.due("another one with the same low end", 1001, () -> x.weight(4));
        x.addWeight(3, 3, -8);
        s.due("negative", -1, () -> x.weight(3));
        x.addWeight(9, 9, 500);
        s.due("a high end does not count", -1, () -> x.weight(3));
        IntervalTree many = Samples.points(1);
        for (int i = 0; i < 255; i++) {
            many.addWeight(0, 0, 1000);
        }
        s.due("far above 999", 255000, () -> many.weight(0));
        for (int i = 0; i < 255; i++) {
            many.addWeight(0, 0, -1000);
        }
        s.due("and back", 0, () -> many.weight(0));

        s.says("- `from`: the first low end of the range");
        IntervalTree y = Samples.points(3);
        s.due("at a low end", 2, () -> y.addWeight(1, 2, 1));
        s.due("behind it", 1, () -> y.addWeight(2, 2, 1));
        s.due("MIN", 3, () -> y.addWeight(MIN, 2, 1));
        s.due("MAX", 0, () -> y.addWeight(MAX, MAX, 1));
        s.due("weights", "1 2 3", () -> y.weight(0) + " " + y.weight(1) + " " + y.weight(2));

        s.says("- `to`: the last low end of the range, at least from");
        IntervalTree z = Samples.points(3);
        s.due("at a low end", 2, () -> z.addWeight(0, 1, 1));
        s.due("before it", 1, () -> z.addWeight(0, 0, 1));
        s.due("MAX", 3, () -> z.addWeight(0, MAX, 1));
        s.due("MIN", 0, () -> z.addWeight(MIN, MIN, 1));
        s.due("weights", "3 2 1", () -> z.weight(0) + " " + z.weight(1) + " " + z.weight(2));
        IntervalTree ends = Samples.of(Samples.row(-1000, 0, 0), Samples.row(1000, 1000, 0));
        s.due("the least low end", 1, () -> ends.addWeight(MIN, -1000, 1));
        s.due("before the least", 0, () -> ends.addWeight(MIN, -1001, 1));
        s.due("the greatest low end", 1, () -> ends.addWeight(1000, MAX, 1));
        s.due("behind the greatest", 0, () -> ends.addWeight(1001, MAX, 1));
    }

    private void addWeightRefused() {
        s.says("- `delta`: the number, -1000 to 1000");
        IntervalTree x = Samples.points(1);
        s.due("the greatest", 1, () -> x.addWeight(0, 0, 1000));
        s.due("its weight", 1000, () -> x.weight(0));
        s.due("the least", 1, () -> x.addWeight(0, 0, -1000));
        s.due("its weight again", 0, () -> x.weight(0));
        s.due("zero", 1, () -> x.addWeight(0, 0, 0));
        s.illegalArgument("above the greatest", () -> x.addWeight(0, 0, 1001));
        s.illegalArgument("below the least", () -> x.addWeight(0, 0, -1001));

        s.says("Returns the number of live intervals whose low end is in the range.");
        IntervalTree y = Samples.mixed();
        s.due("not the removed one", 2, () -> y.addWeight(0, 3, 1));
        s.due("only the removed one", 0, () -> y.addWeight(2, 2, 1));
        s.due("only the gone one", 0, () -> y.addWeight(0, 0, 1));
        s.due("no intervals", 0, () -> new IntervalTree().addWeight(MIN, MAX, 1));

        s.says("Throws `IllegalArgumentException` if from is greater than to or delta is out of range");
        s.illegalArgument("from is one greater", () -> x.addWeight(1, 0, 0));
        s.illegalArgument("from MAX, to MIN", () -> x.addWeight(MAX, MIN, 0));
        s.illegalArgument("delta MIN", () -> x.addWeight(0, 0, MIN));
        s.illegalArgument("delta MAX", () -> x.addWeight(0, 0, MAX));
        s.illegalArgument("both", () -> x.addWeight(1, 0, 1001));
        s.illegalArgument("an empty tree", () -> new IntervalTree().addWeight(0, 0, 1001));
        s.due("its weight", 0, () -> x.weight(0));
    }
}
