/** Objects to begin tests with. */
final class Samples {
    static final int MIN = Integer.MIN_VALUE;
    static final int MAX = Integer.MAX_VALUE;

    private Samples() {
    }

    /** The points 0, 1, .. in this order, with their ids as low ends and the weight 0. */
    static IntervalTree points(int count) {
        IntervalTree x = new IntervalTree();
        for (int i = 0; i < count; i++) {
            x.insert(i, i, 0);
        }
        return x;
    }

    /** Intervals with the ids 0, 1, ..; each row is a low end, a high end and a weight. */
    static IntervalTree of(int[]... rows) {
        IntervalTree x = new IntervalTree();
        for (int[] row : rows) {
            x.insert(row[0], row[1], row[2]);
        }
        return x;
    }

    /** A row for of. */
    static int[] row(int low, int high, int weight) {
        return new int[] {low, high, weight};
    }

    /** Nodes, but no live interval: 0 to 10 and 5 to 15 are removed. */
    static IntervalTree onlyRemoved() {
        IntervalTree x = of(row(0, 10, 5), row(5, 15, 8));
        x.setRebuildPercentage(100);
        x.remove(0);
        x.remove(1);
        return x;
    }

    /** No nodes: the intervals 0 and 1 are gone. */
    static IntervalTree onlyGone() {
        IntervalTree x = onlyRemoved();
        x.rebuild();
        return x;
    }

    /** The points 0 to 3: 0 is gone, 2 is removed and the root, 1 and 3 are live and its children. */
    static IntervalTree mixed() {
        IntervalTree x = points(4);
        x.remove(0);
        x.rebuild();
        x.remove(2);
        return x;
    }

    /** The ids that mixed refuses where an interval in the tree is asked for. */
    static int[] absentFromMixed() {
        return new int[] {-1, 0, 4, 499, 500, -500, 256, MIN, MAX};
    }

    /**
     * A bit of everything: intervals that are live (1, 3 to 8), removed (0, 9) and gone (2), a copy of an earlier
     * state, six filters, a text, and cursors before all, in the midst, at a removed interval, and closed.
     */
    static IntervalTree busy() {
        IntervalTree x = of(row(0, 10, 5), row(5, 15, 8), row(5, 12, 100), row(30, 30, 9), row(-7, 2, 40));
        x.setRebuildPercentage(70);
        x.remove(2);
        x.rebuild();
        x.insert(8, 8, 3);
        x.insert(40, 60, 3);
        x.remove(0);
        x.save();
        x.insert(-50, 50, 12);
        x.insert(11, 13, 0);
        x.insert(12, 12, 77);
        x.addWeight(5, 12, -4);
        x.addRangeFilter(0, 0, 20);
        x.addHeavierFilter(5);
        Checks.parse(x, "!n=0&#2");
        Checks.feed(x, "w>");
        x.open(0, 0);
        x.open(1, 5);
        x.next(1);
        x.next(1);
        x.open(2, 1);
        x.next(2);
        x.next(2);
        x.removeCurrent(2);
        return x;
    }

    /** As busy, with 8 filters. */
    static IntervalTree manyFilters() {
        IntervalTree x = busy();
        x.addRangeFilter(1, 0, 0);
        x.addCombinedFilter(0, 3, 4);
        return x;
    }

    /** As busy, with 60 bytes of text. */
    static IntervalTree muchText() {
        IntervalTree x = busy();
        for (int i = 2; i < 60; i++) {
            x.feed('1');
        }
        return x;
    }

    /** A hundred nodes; so many of them are removed. */
    static IntervalTree hundred(int removed) {
        IntervalTree x = points(100);
        x.setRebuildPercentage(100);
        for (int i = 0; i < removed; i++) {
            x.remove(i);
        }
        return x;
    }

    /** The tree as text: each node as low end, colour and, in brackets, its subtrees, unless both are missing. */
    static String shape(IntervalTree x) {
        for (int id = 0; id < 100; id++) {
            if (x.state(id) < 2) {
                int top = id;
                for (int i = 0; i < 100 && x.parent(top) >= 0; i++) {
                    top = x.parent(top);
                }
                return shape(x, top);
            }
        }
        return "-";
    }

    private static String shape(IntervalTree x, int id) {
        if (id < 0) {
            return "-";
        }
        String node = x.low(id) + (x.isRed(id) ? "R" : "B");
        String left = shape(x, x.child(id, false));
        String right = shape(x, x.child(id, true));
        return left.equals("-") && right.equals("-") ? node : node + "(" + left + "," + right + ")";
    }
}
