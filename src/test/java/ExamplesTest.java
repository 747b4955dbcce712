/** The document's own examples. */
public final class ExamplesTest {
    private static final Checks c = new Checks();

    public static void main(String[] args) {
        points();
        turning();
        schedule();
        removal();
        filters();
        c.end();
    }

    private static void points() {
        IntervalTree x = new IntervalTree();
        c.due("insert(1, 5, 10)", 0, () -> x.insert(1, 5, 10));
        c.due("insert(3, 4, 20)", 1, () -> x.insert(3, 4, 20));
        c.due("insert(6, 8, 10)", 2, () -> x.insert(6, 8, 10));
        c.due("stabCount(4)", 2, () -> x.stabCount(4));
        c.due("stabWeight(4)", 30, () -> x.stabWeight(4));
        c.due("heaviest(4, 0)", 1, () -> x.heaviest(4, 0));
        c.due("heaviestOverlap(1, 9, 1)", 0, () -> x.heaviestOverlap(1, 9, 1));
        c.due("heaviestOverlap(1, 9, 2)", 2, () -> x.heaviestOverlap(1, 9, 2));
        c.due("heaviest(4, 2)", -1, () -> x.heaviest(4, 2));
        c.due("covered(0, 10)", 8, () -> x.covered(0, 10));
        c.due("deepestPoint()", 3, () -> x.deepestPoint());
    }

    private static void turning() {
        IntervalTree x = new IntervalTree();
        c.due("insert(1, 1, 0)", 0, () -> x.insert(1, 1, 0));
        c.due("insert(2, 2, 0)", 1, () -> x.insert(2, 2, 0));
        c.due("parent(0)", -1, () -> x.parent(0));
        c.due("isRed(1)", true, () -> x.isRed(1));
        c.due("insert(3, 3, 0)", 2, () -> x.insert(3, 3, 0));
        c.due("parent(0)", 1, () -> x.parent(0));
        c.due("child(1, true)", 2, () -> x.child(1, true));
        c.due("isRed(0)", true, () -> x.isRed(0));
        c.due("insert(4, 4, 0)", 3, () -> x.insert(4, 4, 0));
        c.due("isRed(0)", false, () -> x.isRed(0));
        c.due("height()", 3, () -> x.height());
    }

    private static void schedule() {
        IntervalTree x = new IntervalTree();
        c.due("insert(1, 4, 5)", 0, () -> x.insert(1, 4, 5));
        c.due("insert(4, 6, 7)", 1, () -> x.insert(4, 6, 7));
        c.due("insert(7, 9, 3)", 2, () -> x.insert(7, 9, 3));
        c.due("insert(5, 9, 4)", 3, () -> x.insert(5, 9, 4));
        c.due("scheduleWeight()", 10, () -> x.scheduleWeight());
        c.due("scheduled(0)", 1, () -> x.scheduled(0));
        c.due("scheduled(1)", 2, () -> x.scheduled(1));
        c.due("piercingPoint(0)", 4, () -> x.piercingPoint(0));
        c.due("piercingPoint(1)", 9, () -> x.piercingPoint(1));
        c.due("addWeight(1, 1, 2)", 1, () -> x.addWeight(1, 1, 2));
        c.due("scheduleWeight()", 11, () -> x.scheduleWeight());
        c.due("scheduled(0)", 0, () -> x.scheduled(0));
    }

    private static void removal() {
        IntervalTree x = new IntervalTree();
        c.due("insert(0, 9, 1)", 0, () -> x.insert(0, 9, 1));
        c.due("insert(5, 5, 2)", 1, () -> x.insert(5, 5, 2));
        c.due("remove(0)", 1, () -> x.remove(0));
        c.due("state(0)", 1, () -> x.state(0));
        c.due("nodeCount()", 2, () -> x.nodeCount());
        c.due("restore(0)", 2, () -> x.restore(0));
        c.due("remove(1)", 1, () -> x.remove(1));
        c.due("remove(0)", 0, () -> x.remove(0));
        c.due("state(0)", 2, () -> x.state(0));
        c.due("nodeCount()", 0, () -> x.nodeCount());
        c.due("rebuildCount()", 1, () -> x.rebuildCount());
    }

    private static void filters() {
        IntervalTree x = new IntervalTree();
        c.due("insert(2, 6, 30)", 0, () -> x.insert(2, 6, 30));
        c.due("insert(8, 8, 5)", 1, () -> x.insert(8, 8, 5));
        c.due("parse w>9&!n=0", 3, () -> Checks.parse(x, "w>9&!n=0"));
        c.due("matchCount(3)", 1, () -> x.matchCount(3));
        c.due("parse w>x", -102, () -> Checks.parse(x, "w>x"));
        c.due("open(0, 3)", 0, () -> x.open(0, 3));
        c.due("next(0)", 0, () -> x.next(0));
        c.due("open(1, 0)", 0, () -> x.open(1, 0));
    }
}
