import java.util.function.Function;

/** Questions about the live intervals: promises 24 to 39. */
final class QueryBoundaries {
    private static final int MIN = Samples.MIN;
    private static final int MAX = Samples.MAX;
    private static final String END = "throws.IndexOutOfBoundsException";

    private final Sentences s;

    QueryBoundaries(Sentences s) {
        this.s = s;
    }

    void test() {
        questionsChangeNothing();
        stabCount();
        stabWeight();
        heaviest();
        heaviestOverlap();
        firstOverlap();
        floor();
        ceiling();
        rank();
        select();
        nearest();
        covered();
        coveredRefused();
        deepestPoint();
        overlapCount();
        scheduleWeight();
        scheduled();
        scheduledRefused();
        piercingPoint();
    }

    /** 0: 0 to 10 of 5; 1: 5 to 15 of 8; 2: 10 to 20 of 5; 3: 30 of 9; 4: 5 to 12 of 100, removed. */
    private static IntervalTree some() {
        IntervalTree x = Samples.of(Samples.row(0, 10, 5), Samples.row(5, 15, 8), Samples.row(10, 20, 5),
                Samples.row(30, 30, 9), Samples.row(5, 12, 100));
        x.remove(4);
        return x;
    }

    /** The two ends of all that can be inserted, the first as wide as can be. */
    private static IntervalTree ends() {
        return Samples.of(Samples.row(-1000, 1000, 1), Samples.row(1000, 1000, 2), Samples.row(-1000, -1000, 4));
    }

    private void questionsChangeNothing() {
        s.in("Intervals");
        s.says("Queries consider live intervals only, unless stated otherwise.");
        asked("asking for numbers", x -> x.size() + x.nodeCount() + x.height()
                + x.rebuildCount() + x.rebuiltNodes() + x.digest());
        asked("asking for a node", x -> x.state(1) + x.low(1) + x.high(1) + x.weight(1)
                + x.parent(1) + x.child(1, true) + "" + x.isRed(1) + x.subtreeSize(1) + x.subtreeHigh(1)
                + x.subtreeWeight(1));
        asked("asking for points", x -> x.stabCount(8) + x.stabWeight(8)
                + x.heaviest(8, 2) + x.heaviestOverlap(0, 20, 3) + x.firstOverlap(9, 20) + x.floor(9) + x.ceiling(9)
                + x.nearest(35) + x.covered(-90, 35) + x.deepestPoint());
        asked("asking for order and sets", x -> x.rank(6) + x.select(3)
                + x.overlapCount() + x.scheduleWeight() + x.scheduled(1) + x.piercingPoint(1));
        asked("asking filters and cursors", x -> x.matchCount(5) + "" + x.accepts(5, 0)
                + x.hasNext(0) + x.hasNext(1) + x.hasNext(2));
    }

    private void asked(String what, Function<IntervalTree, Object> questions) {
        s.due(what + " is answered", false,
                () -> Checks.outcome(() -> questions.apply(Samples.busy())).startsWith("throws."));
        Sights.unchanged(s, what, Samples::busy, questions);
    }

    private void stabCount() {
        s.in("24");
        s.says("Returns the number of intervals that contain a point.");
        IntervalTree x = some();
        int[] points = {-1, 0, 4, 5, 9, 10, 11, 15, 16, 20, 21, 29, 30, 31};
        int[] counts = {0, 1, 1, 2, 2, 3, 2, 2, 1, 1, 0, 0, 1, 0};
        for (int i = 0; i < points.length; i++) {
            int point = points[i];
            s.due("at " + point, counts[i], () -> x.stabCount(point));
        }
        s.says("- `point`: the point, any int");
        IntervalTree y = ends();
        s.due("MIN", 0, () -> y.stabCount(MIN));
        s.due("-1001", 0, () -> y.stabCount(-1001));
        s.due("-1000", 2, () -> y.stabCount(-1000));
        s.due("1000", 2, () -> y.stabCount(1000));
        s.due("1001", 0, () -> y.stabCount(1001));
        s.due("MAX", 0, () -> y.stabCount(MAX));
        s.says("Returns the number of intervals.");
        s.due("none", 0, () -> new IntervalTree().stabCount(0));
        IntervalTree full = new IntervalTree();
        for (int i = 0; i < 100; i++) {
            full.insert(-i, i, 999);
        }
        s.due("a hundred", 100, () -> full.stabCount(0));
        s.due("one of a hundred", 1, () -> full.stabCount(-99));
    }

    private void stabWeight() {
        s.in("25");
        s.says("Returns the sum of the weights of the intervals that contain a point.");
        IntervalTree x = some();
        int[] points = {-1, 0, 4, 5, 9, 10, 11, 15, 16, 20, 21, 29, 30, 31};
        int[] sums = {0, 5, 5, 13, 13, 18, 13, 13, 5, 5, 0, 0, 9, 0};
        for (int i = 0; i < points.length; i++) {
            int point = points[i];
            s.due("at " + point, sums[i], () -> x.stabWeight(point));
        }
        s.says("- `point`: the point, any int");
        IntervalTree y = ends();
        s.due("MIN", 0, () -> y.stabWeight(MIN));
        s.due("-1001", 0, () -> y.stabWeight(-1001));
        s.due("-1000", 5, () -> y.stabWeight(-1000));
        s.due("1000", 3, () -> y.stabWeight(1000));
        s.due("1001", 0, () -> y.stabWeight(1001));
        s.due("MAX", 0, () -> y.stabWeight(MAX));
        s.says("Returns the sum, 0 if there are none.");
        s.due("none", 0, () -> new IntervalTree().stabWeight(0));
        IntervalTree z = Samples.of(Samples.row(0, 0, 3), Samples.row(0, 0, 4));
        z.addWeight(0, 0, -1000);
        s.due("a negative sum", -1993, () -> z.stabWeight(0));
        IntervalTree full = new IntervalTree();
        for (int i = 0; i < 100; i++) {
            full.insert(0, 0, 999);
        }
        for (int i = 0; i < 300; i++) {
            full.addWeight(0, 0, 1000);
        }
        s.due("a great sum", 30099900, () -> full.stabWeight(0));
    }

    private void heaviest() {
        s.in("26");
        s.says("Returns an interval from the ranking of the intervals that contain a point: by weight in descending");
        IntervalTree x = some();
        s.due("the heaviest", 1, () -> x.heaviest(10, 0));
        s.due("equal weights, the smaller id", 0, () -> x.heaviest(10, 1));
        s.due("equal weights, the greater id", 2, () -> x.heaviest(10, 2));
        IntervalTree y = Samples.of(Samples.row(9, 9, 5), Samples.row(0, 9, 5), Samples.row(9, 9, 6));
        s.due("equal weights by id, not by key", "2 0 1",
                () -> y.heaviest(9, 0) + " " + y.heaviest(9, 1) + " " + y.heaviest(9, 2));
        y.addWeight(9, 9, -10);
        s.due("negative weights", "1 2 0",
                () -> y.heaviest(9, 0) + " " + y.heaviest(9, 1) + " " + y.heaviest(9, 2));

        s.says("- `point`: the point, any int");
        s.due("the low end", 1, () -> x.heaviest(5, 0));
        s.due("before the low end", 0, () -> x.heaviest(4, 0));
        s.due("the high end", 1, () -> x.heaviest(15, 0));
        s.due("behind the high end", 2, () -> x.heaviest(16, 0));
        s.due("MIN", -1, () -> ends().heaviest(MIN, 0));
        s.due("-1001", -1, () -> ends().heaviest(-1001, 0));
        s.due("-1000", 2, () -> ends().heaviest(-1000, 0));
        s.due("1000", 1, () -> ends().heaviest(1000, 0));
        s.due("1001", -1, () -> ends().heaviest(1001, 0));
        s.due("MAX", -1, () -> ends().heaviest(MAX, 0));

        s.says("- `k`: the position in the ranking, from 0");
        IntervalTree full = new IntervalTree();
        for (int i = 0; i < 100; i++) {
            full.insert(0, 0, 2 * i % 100);
        }
        s.due("the first", 49, () -> full.heaviest(0, 0));
        s.due("the second, of equal weight", 99, () -> full.heaviest(0, 1));
        s.due("the last but one", 0, () -> full.heaviest(0, 98));
        s.due("the last", 50, () -> full.heaviest(0, 99));

        s.says("Returns the id, or -1 if there are at most k such intervals.");
        s.due("k + 1 of them", 2, () -> x.heaviest(10, 2));
        s.due("k of them", -1, () -> x.heaviest(10, 3));
        s.due("as many intervals, but elsewhere", -1, () -> x.heaviest(11, 2));
        s.due("fewer", -1, () -> x.heaviest(10, 4));
        s.due("MAX", -1, () -> x.heaviest(10, MAX));
        s.due("a hundred", -1, () -> full.heaviest(0, 100));
        s.due("none", -1, () -> new IntervalTree().heaviest(0, 0));

        s.says("Throws `IllegalArgumentException` if k is negative");
        s.illegalArgument("-1", () -> x.heaviest(10, -1));
        s.illegalArgument("MIN", () -> x.heaviest(10, MIN));
        s.illegalArgument("no intervals", () -> new IntervalTree().heaviest(0, -1));
    }

    private void heaviestOverlap() {
        s.in("27");
        s.says("Returns an interval from the ranking of the intervals that overlap a range, which is ordered as for");
        IntervalTree x = some();
        s.due("all", "3 1 0 2", () -> x.heaviestOverlap(0, 30, 0) + " " + x.heaviestOverlap(0, 30, 1) + " "
                + x.heaviestOverlap(0, 30, 2) + " " + x.heaviestOverlap(0, 30, 3));

        s.says("- `from`: the first integer of the range");
        s.due("at a high end", 2, () -> x.heaviestOverlap(20, 29, 0));
        s.due("behind it", -1, () -> x.heaviestOverlap(21, 29, 0));
        s.due("MIN", 0, () -> x.heaviestOverlap(MIN, 4, 0));
        s.due("MAX", -1, () -> x.heaviestOverlap(MAX, MAX, 0));

        s.says("- `to`: the last integer of the range, at least from");
        s.due("at a low end", 3, () -> x.heaviestOverlap(21, 30, 0));
        s.due("before it", -1, () -> x.heaviestOverlap(21, 29, 0));
        s.due("from itself", 3, () -> x.heaviestOverlap(30, 30, 0));
        s.due("MAX", 3, () -> x.heaviestOverlap(30, MAX, 0));
        s.due("MIN", -1, () -> x.heaviestOverlap(MIN, MIN, 0));
        s.due("before all", -1, () -> ends().heaviestOverlap(MIN, -1001, 0));
        s.due("the first of all", 2, () -> ends().heaviestOverlap(MIN, -1000, 0));
        s.due("behind all", -1, () -> ends().heaviestOverlap(1001, MAX, 0));
        s.due("the last of all", 1, () -> ends().heaviestOverlap(1000, MAX, 0));

        s.says("- `k`: the position in the ranking, from 0");
        s.due("the first", 3, () -> x.heaviestOverlap(MIN, MAX, 0));
        s.due("the last", 2, () -> x.heaviestOverlap(MIN, MAX, 3));

        s.says("Returns the id, or -1 if there are at most k such intervals.");
        s.due("k of them", -1, () -> x.heaviestOverlap(MIN, MAX, 4));
        s.due("k + 1 of them", 0, () -> x.heaviestOverlap(0, 9, 1));
        s.due("k of them in a part", -1, () -> x.heaviestOverlap(0, 9, 2));
        s.due("MAX", -1, () -> x.heaviestOverlap(MIN, MAX, MAX));
        s.due("none", -1, () -> new IntervalTree().heaviestOverlap(MIN, MAX, 0));

        s.says("Throws `IllegalArgumentException` if from is greater than to or k is negative");
        s.illegalArgument("from is one greater", () -> x.heaviestOverlap(1, 0, 0));
        s.illegalArgument("from MAX, to MIN", () -> x.heaviestOverlap(MAX, MIN, 0));
        s.illegalArgument("k is -1", () -> x.heaviestOverlap(0, 1, -1));
        s.illegalArgument("k is MIN", () -> x.heaviestOverlap(0, 1, MIN));
        s.illegalArgument("both", () -> x.heaviestOverlap(1, 0, -1));
        s.illegalArgument("no intervals", () -> new IntervalTree().heaviestOverlap(1, 0, 0));
    }

    private void firstOverlap() {
        s.in("28");
        s.says("Returns the interval with the least key that overlaps a range.");
        IntervalTree x = some();
        s.due("all", 0, () -> x.firstOverlap(0, 30));
        s.due("not the first of all", 1, () -> x.firstOverlap(11, 30));
        x.restore(4);
        s.due("the least key, not the least id", 4, () -> x.firstOverlap(11, 30));
        x.remove(4);

        s.says("- `from`: the first integer of the range");
        s.due("at a high end", 0, () -> x.firstOverlap(10, 40));
        s.due("behind it", 1, () -> x.firstOverlap(11, 40));
        s.due("MIN", 0, () -> x.firstOverlap(MIN, 0));
        s.due("MAX", -1, () -> x.firstOverlap(MAX, MAX));

        s.says("- `to`: the last integer of the range, at least from");
        s.due("at a low end", 3, () -> x.firstOverlap(21, 30));
        s.due("before it", -1, () -> x.firstOverlap(21, 29));
        s.due("from itself", 3, () -> x.firstOverlap(30, 30));
        s.due("MAX", 3, () -> x.firstOverlap(21, MAX));
        s.due("MIN", -1, () -> x.firstOverlap(MIN, MIN));

        s.says("Returns the id, or -1 if there is none.");
        s.due("before all", -1, () -> ends().firstOverlap(MIN, -1001));
        s.due("the first of all", 2, () -> ends().firstOverlap(MIN, -1000));
        s.due("behind all", -1, () -> ends().firstOverlap(1001, MAX));
        s.due("the last of all", 0, () -> ends().firstOverlap(1000, MAX));
        s.due("none", -1, () -> new IntervalTree().firstOverlap(MIN, MAX));

        s.says("Throws `IllegalArgumentException` if from is greater than to");
        s.illegalArgument("from is one greater", () -> x.firstOverlap(1, 0));
        s.illegalArgument("from MAX, to MIN", () -> x.firstOverlap(MAX, MIN));
        s.illegalArgument("no intervals", () -> new IntervalTree().firstOverlap(1, 0));
    }

    private void floor() {
        s.in("29");
        s.says("Returns the interval with the greatest key among those whose low end is at most a point.");
        IntervalTree x = some();
        s.due("at a low end", 1, () -> x.floor(5));
        s.due("before it", 0, () -> x.floor(4));
        s.due("behind it", 1, () -> x.floor(6));
        x.insert(5, 15, 0);
        x.insert(5, 14, 0);
        s.due("equal low ends: the greatest high end, then the greatest id", 5, () -> x.floor(5));

        s.says("- `point`: the point, any int");
        s.due("MIN", -1, () -> ends().floor(MIN));
        s.due("-1001", -1, () -> ends().floor(-1001));
        s.due("-1000", 0, () -> ends().floor(-1000));
        s.due("999", 0, () -> ends().floor(999));
        s.due("1000", 1, () -> ends().floor(1000));
        s.due("MAX", 1, () -> ends().floor(MAX));

        s.says("Returns the id, or -1 if there is none.");
        s.due("before all", -1, () -> x.floor(-1));
        s.due("none", -1, () -> new IntervalTree().floor(MAX));
    }

    private void ceiling() {
        s.in("30");
        s.says("Returns the interval with the least key among those whose low end is at least a point.");
        IntervalTree x = some();
        s.due("at a low end", 1, () -> x.ceiling(5));
        s.due("before it", 1, () -> x.ceiling(4));
        s.due("behind it", 2, () -> x.ceiling(6));
        x.insert(5, 15, 0);
        s.due("equal ends: the least id", 1, () -> x.ceiling(5));
        x.insert(5, 14, 0);
        s.due("equal low ends: the least high end", 6, () -> x.ceiling(5));

        s.says("- `point`: the point, any int");
        s.due("MIN", 2, () -> ends().ceiling(MIN));
        s.due("-1000", 2, () -> ends().ceiling(-1000));
        s.due("-999", 1, () -> ends().ceiling(-999));
        s.due("1000", 1, () -> ends().ceiling(1000));
        s.due("1001", -1, () -> ends().ceiling(1001));
        s.due("MAX", -1, () -> ends().ceiling(MAX));

        s.says("Returns the id, or -1 if there is none.");
        s.due("the last", 3, () -> x.ceiling(30));
        s.due("behind all", -1, () -> x.ceiling(31));
        s.due("none", -1, () -> new IntervalTree().ceiling(MIN));
    }

    private void rank() {
        s.in("31");
        s.says("Returns the number of intervals with a smaller key than an interval.");
        IntervalTree x = Samples.of(Samples.row(5, 9, 0), Samples.row(5, 7, 0), Samples.row(4, 100, 0),
                Samples.row(5, 7, 0), Samples.row(6, 6, 0));
        int[] ranks = {3, 1, 0, 2, 4};
        for (int i = 0; i < ranks.length; i++) {
            int id = i;
            s.due("of " + id, ranks[id], () -> x.rank(id));
        }
        x.remove(2);
        s.due("a removed one does not count", 0, () -> x.rank(1));

        s.says("- `id`: the id of a live interval");
        s.due("the least", 0, () -> Samples.points(100).rank(0));
        s.due("the greatest", 99, () -> Samples.points(100).rank(99));

        s.says("Returns the number of intervals.");
        s.due("the only one", 0, () -> Samples.points(1).rank(0));

        s.says("Throws `NoSuchElementException` if there is no live interval with this id");
        IntervalTree m = Samples.mixed();
        for (int id : Samples.absentFromMixed()) {
            s.noSuchElement("id " + id, () -> m.rank(id));
        }
        s.noSuchElement("a removed one", () -> m.rank(2));
        s.noSuchElement("a gone one", () -> m.rank(0));
        s.noSuchElement("no intervals", () -> new IntervalTree().rank(0));
    }

    private void select() {
        s.in("32");
        s.says("Returns the interval with exactly k smaller keys.");
        IntervalTree x = Samples.of(Samples.row(5, 9, 0), Samples.row(5, 7, 0), Samples.row(4, 100, 0),
                Samples.row(5, 7, 0), Samples.row(6, 6, 0));
        int[] order = {2, 1, 3, 0, 4};
        for (int i = 0; i < order.length; i++) {
            int k = i;
            s.due("with " + k, order[k], () -> x.select(k));
        }
        x.remove(1);
        s.due("a removed one does not count", 3, () -> x.select(1));

        s.says("- `k`: the number of smaller keys, 0 to size() - 1");
        s.due("the least", 0, () -> Samples.points(100).select(0));
        s.due("the greatest", 99, () -> Samples.points(100).select(99));
        s.due("the greatest beside a removed one", 4, () -> x.select(3));

        s.says("Returns the id.");
        s.due("the only one", 0, () -> Samples.points(1).select(0));

        s.says("Throws `IndexOutOfBoundsException` if k is out of range");
        s.outOfBounds("-1", () -> x.select(-1));
        s.outOfBounds("size, less than the number of nodes", () -> x.select(4));
        s.outOfBounds("the number of nodes", () -> x.select(5));
        s.outOfBounds("MIN", () -> x.select(MIN));
        s.outOfBounds("MAX", () -> x.select(MAX));
        s.outOfBounds("a hundred", () -> Samples.points(100).select(100));
        s.outOfBounds("no intervals", () -> new IntervalTree().select(0));
        s.outOfBounds("only removed ones", () -> Samples.onlyRemoved().select(0));
    }

    private void nearest() {
        s.in("33");
        s.says("Returns the interval with the least distance to a point: 0 if it contains the point, otherwise the");
        IntervalTree x = some();
        s.due("contained", 1, () -> x.nearest(11));
        s.due("at a low end", 3, () -> x.nearest(30));
        s.due("at a high end", 2, () -> x.nearest(20));
        s.due("the high end is nearer", 2, () -> x.nearest(24));
        s.due("the low end is nearer", 3, () -> x.nearest(26));
        s.due("before all", 0, () -> x.nearest(-1));
        s.due("behind all", 3, () -> x.nearest(31));
        s.due("the nearer end, not the low end", 0,
                () -> Samples.of(Samples.row(0, 10, 0), Samples.row(13, 13, 0)).nearest(11));
        s.due("the nearer end, not the high end", 1,
                () -> Samples.of(Samples.row(-5, -5, 0), Samples.row(10, 100, 0)).nearest(3));

        s.says("Among several, it is the one with the least key.");
        s.due("as near on both sides", 2, () -> x.nearest(25));
        s.due("contained in several", 0, () -> x.nearest(10));
        IntervalTree y = Samples.of(Samples.row(5, 9, 0), Samples.row(5, 7, 0), Samples.row(5, 7, 0));
        s.due("equal low ends", 1, () -> y.nearest(0));
        s.due("equal high ends", 1, () -> Samples.of(Samples.row(5, 9, 0), Samples.row(4, 9, 0)).nearest(12));

        s.says("- `point`: the point, -2000 to 2000");
        s.due("the least", 2, () -> ends().nearest(-2000));
        s.due("the greatest", 0, () -> ends().nearest(2000));
        s.due("the farthest", 0, () -> Samples.of(Samples.row(1000, 1000, 0)).nearest(-2000));

        s.says("Returns the id, or -1 if there are no intervals.");
        s.due("none", -1, () -> new IntervalTree().nearest(0));
        s.due("none, the least", -1, () -> new IntervalTree().nearest(-2000));
        s.due("none live", -1, () -> Samples.onlyRemoved().nearest(2000));

        s.says("Throws `IllegalArgumentException` if point is out of range");
        s.illegalArgument("-2001", () -> x.nearest(-2001));
        s.illegalArgument("2001", () -> x.nearest(2001));
        s.illegalArgument("MIN", () -> x.nearest(MIN));
        s.illegalArgument("MAX", () -> x.nearest(MAX));
        s.illegalArgument("no intervals", () -> new IntervalTree().nearest(2001));
    }

    private void covered() {
        s.in("34");
        s.says("Returns how many integers of a range are contained in at least one interval.");
        IntervalTree x = some();
        s.due("all", 22, () -> x.covered(-10, 40));
        s.due("where several overlap", 6, () -> x.covered(5, 10));
        s.due("a gap", 0, () -> x.covered(21, 29));
        s.due("around a gap", 2, () -> x.covered(20, 30));
        IntervalTree nested = Samples.of(Samples.row(0, 100, 0), Samples.row(10, 20, 0), Samples.row(15, 110, 0),
                Samples.row(112, 113, 0), Samples.row(111, 111, 0));
        s.due("nested and side by side", 114, () -> nested.covered(-5, 200));
        s.due("equal ones", 3, () -> Samples.of(Samples.row(1, 3, 0), Samples.row(1, 3, 0)).covered(0, 9));

        s.says("- `from`: the first integer of the range, -2000 to 2000");
        s.due("the least", 22, () -> x.covered(-2000, 40));
        s.due("the greatest", 0, () -> x.covered(2000, 2000));
        s.due("at a high end", 1, () -> x.covered(20, 29));
        s.due("behind it", 0, () -> x.covered(21, 29));
        s.due("inside", 3, () -> x.covered(18, 29));

        s.says("- `to`: the last integer of the range, from to 2000");
        s.due("the greatest", 22, () -> x.covered(-10, 2000));
        s.due("from itself, contained", 1, () -> x.covered(30, 30));
        s.due("from itself, not contained", 0, () -> x.covered(29, 29));
        s.due("the least of all", 0, () -> x.covered(-2000, -2000));
        s.due("at a low end", 1, () -> x.covered(21, 30));
        s.due("before it", 0, () -> x.covered(21, 29));
        s.due("inside", 3, () -> x.covered(-5, 2));
    }

    private void coveredRefused() {
        s.says("Returns the number of integers.");
        s.due("all that can be", 2001, () -> ends().covered(-2000, 2000));
        s.due("none", 0, () -> new IntervalTree().covered(-2000, 2000));

        s.says("Throws `IllegalArgumentException` if an argument is out of range");
        IntervalTree x = some();
        s.illegalArgument("from -2001", () -> x.covered(-2001, 0));
        s.illegalArgument("from 2001", () -> x.covered(2001, 2000));
        s.illegalArgument("from and to 2001", () -> x.covered(2001, 2001));
        s.illegalArgument("to 2001", () -> x.covered(0, 2001));
        s.illegalArgument("to is one less", () -> x.covered(1, 0));
        s.illegalArgument("from and to -2001", () -> x.covered(-2001, -2001));
        s.illegalArgument("from MIN", () -> x.covered(MIN, 0));
        s.illegalArgument("to MAX", () -> x.covered(0, MAX));
        s.illegalArgument("from MAX, to MIN", () -> x.covered(MAX, MIN));
        s.illegalArgument("no intervals", () -> new IntervalTree().covered(1, 0));
    }

    private void deepestPoint() {
        s.in("35");
        s.says("Returns the least point that is contained in the greatest number of intervals.");
        s.due("in three", 10, () -> some().deepestPoint());
        s.due("the first of equally deep ones", -1000,
                () -> Samples.of(Samples.row(7, 9, 0), Samples.row(-1000, -999, 0)).deepestPoint());
        s.due("weights do not count", 0,
                () -> Samples.of(Samples.row(7, 9, 999), Samples.row(0, 1, 0)).deepestPoint());
        s.due("a high end in common", 5,
                () -> Samples.of(Samples.row(0, 5, 0), Samples.row(5, 9, 0)).deepestPoint());
        s.due("a deeper one behind", 20, () -> Samples.of(Samples.row(0, 5, 0), Samples.row(1, 9, 0),
                Samples.row(20, 22, 0), Samples.row(20, 20, 0), Samples.row(19, 20, 0)).deepestPoint());

        s.says("Returns the point.");
        s.due("the least of all", -1000, () -> ends().deepestPoint());
        s.due("the greatest of all", 1000, () -> Samples.of(Samples.row(1000, 1000, 0)).deepestPoint());
        s.due("a single interval", -3, () -> Samples.of(Samples.row(-3, 8, 0)).deepestPoint());

        s.says("Throws `NoSuchElementException` if there are no intervals");
        s.noSuchElement("none", () -> new IntervalTree().deepestPoint());
        s.noSuchElement("none live", () -> Samples.onlyRemoved().deepestPoint());
        s.noSuchElement("all gone", () -> Samples.onlyGone().deepestPoint());
    }

    private void overlapCount() {
        s.in("36");
        s.says("Returns the number of pairs of different intervals that overlap.");
        s.due("three pairs", 3, () -> some().overlapCount());
        s.due("an interval is no pair with itself", 0, () -> Samples.points(1).overlapCount());
        s.due("equal ones are different", 1,
                () -> Samples.of(Samples.row(0, 3, 0), Samples.row(0, 3, 0)).overlapCount());
        s.due("a common end", 1, () -> Samples.of(Samples.row(3, 5, 0), Samples.row(0, 3, 0)).overlapCount());
        s.due("side by side", 0, () -> Samples.of(Samples.row(4, 5, 0), Samples.row(0, 3, 0)).overlapCount());
        s.due("a long one and two that are apart", 2, () -> Samples.of(Samples.row(0, 9, 0), Samples.row(1, 2, 0),
                Samples.row(8, 9, 0)).overlapCount());

        s.says("Returns the number of pairs.");
        s.due("none", 0, () -> new IntervalTree().overlapCount());
        IntervalTree full = new IntervalTree();
        for (int i = 0; i < 100; i++) {
            full.insert(-i, i, 0);
        }
        s.due("all pairs of a hundred", 4950, () -> full.overlapCount());
        s.due("no pair of a hundred", 0, () -> Samples.points(100).overlapCount());
    }

    private void scheduleWeight() {
        s.in("37");
        s.says("Returns the greatest sum of weights of a set of intervals no two of which overlap.");
        s.due("two of four", 17, () -> some().scheduleWeight());
        s.due("a common end", 7, () -> Samples.of(Samples.row(0, 3, 5), Samples.row(3, 6, 7)).scheduleWeight());
        s.due("side by side", 12, () -> Samples.of(Samples.row(0, 3, 5), Samples.row(4, 6, 7)).scheduleWeight());
        s.due("a long one is better", 9, () -> Samples.of(Samples.row(0, 9, 9), Samples.row(0, 3, 4),
                Samples.row(5, 9, 4)).scheduleWeight());
        s.due("two short ones are better", 10, () -> Samples.of(Samples.row(0, 9, 9), Samples.row(0, 3, 4),
                Samples.row(5, 9, 6)).scheduleWeight());
        s.due("the later one of two that overlap twice", 8, () -> Samples.of(Samples.row(0, 4, 4),
                Samples.row(4, 8, 7), Samples.row(8, 9, 4)).scheduleWeight());

        s.says("The set may be empty, with the sum 0.");
        s.due("no intervals", 0, () -> new IntervalTree().scheduleWeight());
        IntervalTree y = Samples.points(3);
        s.due("no weight", 0, () -> y.scheduleWeight());
        y.addWeight(MIN, MAX, -1);
        s.due("negative weights", 0, () -> y.scheduleWeight());
        y.addWeight(1, 1, 2);
        s.due("one positive weight", 1, () -> y.scheduleWeight());

        s.says("Returns the greatest sum.");
        IntervalTree full = new IntervalTree();
        for (int i = 0; i < 100; i++) {
            full.insert(10 * i - 500, 10 * i - 491, 999);
        }
        s.due("a hundred side by side", 99900, () -> full.scheduleWeight());
        full.addWeight(MIN, MAX, 1000);
        s.due("greater weights", 199900, () -> full.scheduleWeight());
    }

    private static String schedule(IntervalTree x) {
        StringBuilder ids = new StringBuilder();
        String answer = Checks.outcome(() -> x.scheduled(0));
        for (int i = 1; i < 102 && !answer.startsWith("throws."); i++) {
            int position = i;
            ids.append(answer).append(' ');
            answer = Checks.outcome(() -> x.scheduled(position));
        }
        return ids + answer;
    }

    private void scheduled() {
        s.in("38");
        s.says("Returns an interval of a best schedule, which is a set as described for scheduleWeight with the");
        s.due("two of four", "1 3 " + END, () -> schedule(some()));
        s.due("a common end", "1 " + END,
                () -> schedule(Samples.of(Samples.row(0, 3, 5), Samples.row(3, 6, 7))));
        s.due("side by side", "0 1 " + END,
                () -> schedule(Samples.of(Samples.row(0, 3, 5), Samples.row(4, 6, 7))));

        s.says("It is determined by going through all intervals in ascending order of their keys, beginning with the");
        s.due("by keys, not by ids", "2 1 0 " + END,
                () -> schedule(Samples.of(Samples.row(8, 9, 1), Samples.row(4, 5, 1), Samples.row(0, 1, 1))));
        s.due("equal keys but for the ids", "1 " + END,
                () -> schedule(Samples.of(Samples.row(0, 1, 1), Samples.row(0, 1, 1))));
        s.due("equal low ends", "0 " + END,
                () -> schedule(Samples.of(Samples.row(0, 2, 1), Samples.row(0, 1, 1))));

        s.says("An interval that overlaps one already in the set is left out.");
        s.due("the second", "0 2 " + END, () -> schedule(
                Samples.of(Samples.row(0, 4, 9), Samples.row(4, 6, 5), Samples.row(7, 9, 3))));

        s.says("Any other interval is left out if the greatest sum remains possible without it, and taken otherwise.");
        s.due("of two equally good ones the later", "1 " + END,
                () -> schedule(Samples.of(Samples.row(0, 3, 5), Samples.row(3, 6, 5))));
        s.due("one and two of the same sum", "1 2 " + END, () -> schedule(
                Samples.of(Samples.row(0, 9, 5), Samples.row(1, 2, 2), Samples.row(4, 5, 3))));
        s.due("weight 0", "1 " + END,
                () -> schedule(Samples.of(Samples.row(0, 0, 0), Samples.row(5, 5, 1), Samples.row(9, 9, 0))));
        IntervalTree y = Samples.of(Samples.row(0, 0, 3), Samples.row(5, 5, 1), Samples.row(9, 9, 1));
        y.addWeight(5, 5, -2);
        s.due("a negative weight", "0 2 " + END, () -> schedule(y));
        s.due("the first is needed, a later one not", "0 2 " + END, () -> schedule(
                Samples.of(Samples.row(0, 1, 2), Samples.row(3, 6, 4), Samples.row(5, 9, 4))));
    }

    private void scheduledRefused() {
        s.says("- `i`: the position in the schedule, in ascending order of keys, from 0");
        IntervalTree full = new IntervalTree();
        for (int i = 0; i < 100; i++) {
            full.insert(-i, -i, 1);
        }
        s.due("the first", 99, () -> full.scheduled(0));
        s.due("the last", 0, () -> full.scheduled(99));

        s.says("Returns the id.");
        s.due("the only one", 0, () -> Samples.of(Samples.row(7, 8, 1)).scheduled(0));

        s.says("Throws `IndexOutOfBoundsException` if the schedule has no such position");
        IntervalTree x = some();
        s.outOfBounds("behind the last", () -> x.scheduled(2));
        s.outOfBounds("-1", () -> x.scheduled(-1));
        s.outOfBounds("MIN", () -> x.scheduled(MIN));
        s.outOfBounds("MAX", () -> x.scheduled(MAX));
        s.outOfBounds("a hundred", () -> full.scheduled(100));
        s.outOfBounds("an empty schedule", () -> Samples.points(3).scheduled(0));
        s.outOfBounds("no intervals", () -> new IntervalTree().scheduled(0));
        s.outOfBounds("no intervals, -1", () -> new IntervalTree().scheduled(-1));
    }

    private static String piercing(IntervalTree x) {
        StringBuilder points = new StringBuilder();
        String answer = Checks.outcome(() -> x.piercingPoint(0));
        for (int i = 1; i < 102 && !answer.startsWith("throws."); i++) {
            int position = i;
            points.append(answer).append(' ');
            answer = Checks.outcome(() -> x.piercingPoint(position));
        }
        return points + answer;
    }

    private void piercingPoint() {
        s.in("39");
        s.says("Returns a point of the piercing sequence, whose points together are contained in all intervals.");
        s.due("two points", "10 30 " + END, () -> piercing(some()));

        s.says("Each of its points is the least high end of the intervals that contain none of the points before it");
        s.due("a common end: one point", "3 " + END,
                () -> piercing(Samples.of(Samples.row(0, 3, 0), Samples.row(3, 6, 0))));
        s.due("side by side: two points", "3 6 " + END,
                () -> piercing(Samples.of(Samples.row(0, 3, 0), Samples.row(4, 6, 0))));
        s.due("nested", "3 16 35 " + END, () -> piercing(Samples.of(Samples.row(0, 100, 0), Samples.row(10, 20, 0),
                Samples.row(15, 16, 0), Samples.row(17, 40, 0), Samples.row(30, 35, 0), Samples.row(2, 3, 0))));
        s.due("equal ones", "5 " + END,
                () -> piercing(Samples.of(Samples.row(5, 5, 0), Samples.row(5, 5, 0), Samples.row(5, 9, 0))));
        s.due("a longer one that begins before", "4 " + END,
                () -> piercing(Samples.of(Samples.row(0, 9, 0), Samples.row(3, 4, 0))));
        s.due("all intervals contain the first point", "-1000 1000 " + END, () -> piercing(ends()));

        s.says("- `i`: the position in the sequence, from 0");
        IntervalTree full = Samples.points(100);
        s.due("the first", 0, () -> full.piercingPoint(0));
        s.due("the last", 99, () -> full.piercingPoint(99));

        s.says("Returns the point.");
        s.due("the only one", 8, () -> Samples.of(Samples.row(7, 8, 1)).piercingPoint(0));

        s.says("Throws `IndexOutOfBoundsException` if the sequence has no such position");
        IntervalTree x = some();
        s.outOfBounds("behind the last", () -> x.piercingPoint(2));
        s.outOfBounds("-1", () -> x.piercingPoint(-1));
        s.outOfBounds("MIN", () -> x.piercingPoint(MIN));
        s.outOfBounds("MAX", () -> x.piercingPoint(MAX));
        s.outOfBounds("a hundred", () -> full.piercingPoint(100));
        s.outOfBounds("no intervals", () -> new IntervalTree().piercingPoint(0));
        s.outOfBounds("no intervals, -1", () -> new IntervalTree().piercingPoint(-1));
    }
}
