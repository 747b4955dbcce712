import java.util.function.Consumer;
import java.util.function.Supplier;

/** Cursors and copies: promises 47 to 52. */
final class CursorBoundaries {
    private static final int MIN = Samples.MIN;
    private static final int MAX = Samples.MAX;
    private static final int[] NO_CURSORS = {-1, 4, MIN, MAX};

    private final Sentences s;

    CursorBoundaries(Sentences s) {
        this.s = s;
    }

    void test() {
        cursors();
        positions();
        open();
        hasNext();
        next();
        removeCurrent();
        removeCurrentRefused();
        save();
        saveReplaces();
        load();
        loadCursors();
    }

    private void cursors() {
        s.in("Cursors");
        s.says("There are 4 cursors, numbered from 0, initially closed.");
        IntervalTree x = Samples.points(2);
        for (int i = 0; i < 4; i++) {
            int cursor = i;
            s.illegalState("closed: hasNext of " + i, () -> x.hasNext(cursor));
            s.illegalState("closed: next of " + i, () -> x.next(cursor));
            s.illegalState("closed: removeCurrent of " + i, () -> x.removeCurrent(cursor));
            s.due("opened: " + i, 0, () -> x.open(cursor, 0));
        }
        s.due("each has its own position", "0 0 1 0",
                () -> x.next(0) + " " + x.next(3) + " " + x.next(3) + " " + x.next(1));
        s.due("the others stay", "true false", () -> x.hasNext(0) + " " + x.hasNext(3));
        for (int cursor : NO_CURSORS) {
            s.illegalArgument("no cursor " + cursor, () -> x.hasNext(cursor));
        }

        s.says("An open cursor has a filter and a position, which is before all intervals or directly after the key");
        IntervalTree y = Samples.of(Samples.row(-1000, -1000, 0), Samples.row(5, 9, 0), Samples.row(1000, 1000, 0));
        s.due("before all, also the least", 0, () -> y.open(0, 0));
        s.due("a cursor with another filter", 0, () -> y.open(1, 1));
        s.due("next of the first", "0 1 2", () -> y.next(0) + " " + y.next(0) + " " + y.next(0));
        s.due("next of the second", "0 2", () -> y.next(1) + " " + y.next(1));
        y.insert(1000, 1000, 0);
        s.due("directly after it: an equal one with a greater id", 3, () -> y.next(0));

        s.says("The following interval of a cursor is the live interval with the least key after the position that");
        IntervalTree z = Samples.of(Samples.row(5, 9, 0), Samples.row(5, 7, 0), Samples.row(4, 100, 0),
                Samples.row(5, 7, 0), Samples.row(6, 6, 0));
        s.due("by keys", "2 2 1 3 0 4", () -> z.open(0, 0) + " " + z.next(0) + " " + z.next(0) + " " + z.next(0)
                + " " + z.next(0) + " " + z.next(0));
        z.remove(2);
        s.due("a removed one is passed", 1, () -> z.open(1, 0));
        z.restore(2);
        s.due("a restored one is not", 2, () -> z.next(1));
        z.remove(2);
        z.remove(1);
        s.due("removed ones behind the position are passed", 3, () -> z.next(1));
        s.due("rejected ones are passed", 4, () -> z.open(2, 1));
        s.due("none is accepted", -1, () -> z.open(2, z.addRangeFilter(0, 7, 7)));
    }

    private void positions() {
        s.says("The position is a key, so it is not affected by insertions, removals and rebuilds.");
        IntervalTree x = Samples.of(Samples.row(10, 12, 0), Samples.row(20, 20, 0), Samples.row(30, 30, 0));
        x.open(0, 0);
        x.next(0);
        x.insert(5, 5, 0);
        x.insert(10, 11, 0);
        s.due("an insertion before it is passed", 1, () -> x.next(0));
        x.open(0, 0);
        x.next(0);
        x.next(0);
        x.next(0);
        x.insert(10, 13, 0);
        s.due("an insertion behind it is not", 5, () -> x.next(0));
        x.remove(5);
        s.due("a removal of its interval", 1, () -> x.next(0));
        x.remove(1);
        x.rebuild();
        s.due("its interval is gone", 2, () -> x.next(0));
        s.due("the end", false, () -> x.hasNext(0));
        x.rebuild();
        s.due("the end after a rebuild", false, () -> x.hasNext(0));
        x.insert(30, 30, 0);
        s.due("an insertion behind the end", 6, () -> x.next(0));
        x.insert(29, 1000, 0);
        s.due("an insertion before the end", false, () -> x.hasNext(0));
        IntervalTree y = new IntervalTree();
        y.open(0, 0);
        y.insert(-1000, -1000, 0);
        s.due("an insertion into an empty tree, before all", 0, () -> y.next(0));
    }

    private void open() {
        s.in("47");
        s.says("Opens a cursor before all intervals, also if it is open.");
        IntervalTree x = Samples.points(3);
        x.open(0, 0);
        x.next(0);
        x.next(0);
        s.due("again", 0, () -> x.open(0, 0));
        s.due("before all again", 0, () -> x.next(0));
        x.insert(-1, 5, 0);
        s.due("with another filter", 0, () -> x.open(0, 1));
        s.due("the new filter", 0, () -> x.next(0));

        s.says("- `cursor`: the cursor, 0 to 3");
        s.due("the least", 0, () -> Samples.points(1).open(0, 0));
        s.due("the greatest", 0, () -> Samples.points(1).open(3, 0));

        s.says("- `filter`: the number of its filter");
        s.due("the least", 7, () -> Samples.busy().open(0, 0));
        s.due("the greatest", 1, () -> Samples.manyFilters().open(0, 7));

        s.says("Returns the following interval of the cursor, or -1 if there is none.");
        s.due("it does not move there", "3 3", () -> x.open(1, 0) + " " + x.next(1));
        s.due("no intervals", -1, () -> new IntervalTree().open(0, 0));
        s.due("none is live", -1, () -> Samples.onlyRemoved().open(0, 0));
        s.due("none is accepted", -1, () -> Samples.points(3).open(0, 2));

        s.says("Throws `IllegalArgumentException` if the cursor or the filter does not exist");
        IntervalTree y = Samples.points(3);
        y.open(0, 0);
        y.next(0);
        for (int cursor : NO_CURSORS) {
            s.illegalArgument("cursor " + cursor, () -> y.open(cursor, 0));
            s.illegalArgument("cursor and filter " + cursor, () -> y.open(cursor, cursor));
        }
        for (int filter : new int[] {-1, 3, 7, 8, MIN, MAX}) {
            s.illegalArgument("filter " + filter, () -> y.open(0, filter));
            s.illegalArgument("closed cursor, filter " + filter, () -> y.open(1, filter));
        }
        s.illegalArgument("8 filters, filter 8", () -> Samples.manyFilters().open(0, 8));
        s.due("the cursor stays where it was", 1, () -> y.next(0));
        s.illegalState("the closed cursor stays closed", () -> y.hasNext(1));
    }

    private void hasNext() {
        s.in("48");
        s.says("Returns whether a cursor has a following interval.");
        IntervalTree x = Samples.points(2);
        x.open(0, 0);
        s.due("before the first", true, () -> x.hasNext(0));
        s.due("it does not move", true, () -> x.hasNext(0));
        x.next(0);
        s.due("before the last", true, () -> x.hasNext(0));
        x.next(0);
        s.due("behind the last", false, () -> x.hasNext(0));
        x.insert(1, 2, 0);
        s.due("a new last", true, () -> x.hasNext(0));
        x.remove(2);
        s.due("the new last is removed", false, () -> x.hasNext(0));

        s.says("- `cursor`: the cursor, 0 to 3");
        x.open(3, 0);
        s.due("the least", false, () -> x.hasNext(0));
        s.due("the greatest", true, () -> x.hasNext(3));

        s.says("Returns true if there is one.");
        x.open(1, 2);
        s.due("none is accepted", false, () -> x.hasNext(1));
        x.insert(0, 0, 0);
        s.due("now two are", true, () -> x.hasNext(1));
        IntervalTree none = new IntervalTree();
        none.open(0, 0);
        s.due("no intervals", false, () -> none.hasNext(0));

        s.says("Throws `IllegalArgumentException` if the cursor does not exist");
        for (int cursor : NO_CURSORS) {
            s.illegalArgument("cursor " + cursor, () -> x.hasNext(cursor));
        }

        s.says("Throws `IllegalStateException` if it is closed");
        s.illegalState("never opened", () -> x.hasNext(2));
        s.illegalState("no intervals", () -> new IntervalTree().hasNext(0));
        x.save();
        x.load();
        s.illegalState("closed by load", () -> x.hasNext(0));
    }

    private void next() {
        s.in("49");
        s.says("Moves a cursor behind its following interval.");
        IntervalTree x = Samples.points(3);
        x.open(0, 0);
        s.due("all of them", "0 1 2", () -> x.next(0) + " " + x.next(0) + " " + x.next(0));
        s.due("the end", false, () -> x.hasNext(0));

        s.says("- `cursor`: the cursor, 0 to 3");
        x.open(0, 0);
        x.open(3, 0);
        x.next(0);
        s.due("the greatest", 0, () -> x.next(3));
        s.due("the least", 1, () -> x.next(0));

        s.says("Returns the id of that interval.");
        s.due("the one that open told", true, () -> x.open(1, 1) == x.next(1));
        x.insert(0, 5, 0);
        s.due("a new one", 3, () -> x.next(3));

        s.says("Throws `IllegalArgumentException` if the cursor does not exist");
        for (int cursor : NO_CURSORS) {
            s.illegalArgument("cursor " + cursor, () -> x.next(cursor));
        }

        s.says("Throws `IllegalStateException` if it is closed");
        s.illegalState("never opened", () -> x.next(2));
        s.illegalState("no intervals either", () -> new IntervalTree().next(3));
        x.save();
        x.load();
        s.illegalState("closed by load", () -> x.next(0));

        s.says("Throws `NoSuchElementException` if there is no following interval");
        IntervalTree y = Samples.points(2);
        y.open(0, 0);
        y.next(0);
        y.next(0);
        s.noSuchElement("the end", () -> y.next(0));
        s.noSuchElement("the end again", () -> y.next(0));
        y.insert(1, 1, 0);
        s.due("an interval behind the end", 2, () -> y.next(0));
        y.open(1, y.addRangeFilter(0, 5, 5));
        s.noSuchElement("none is accepted", () -> y.next(1));
        IntervalTree z = Samples.onlyRemoved();
        z.open(0, 0);
        s.noSuchElement("none is live", () -> z.next(0));
    }

    private void removeCurrent() {
        s.in("50");
        s.says("Removes the interval that next returned last for a cursor.");
        IntervalTree x = Samples.points(6);
        x.open(0, 0);
        x.open(1, 0);
        x.next(0);
        x.next(1);
        x.next(1);
        s.due("of the first cursor", 5, () -> x.removeCurrent(0));
        s.due("removed", "100000", () -> states(x));
        s.due("of the second cursor", 4, () -> x.removeCurrent(1));
        s.due("removed too", "110000", () -> states(x));
        x.next(1);
        x.hasNext(1);
        x.insert(2, 2, 0);
        s.due("the last that was returned, not a new one", 4, () -> x.removeCurrent(1));
        s.due("removed as well", "1110000", () -> states(x));

        s.says("The position of the cursor stays.");
        s.due("behind it", 6, () -> x.next(1));
        s.due("the first cursor", 6, () -> x.next(0));

        s.says("It may cause a rebuild after the removal.");
        s.due("three of seven", 0, () -> x.rebuildCount());
        s.due("one more", 3, () -> x.removeCurrent(0));
        s.due("a rebuild", 1, () -> x.rebuildCount());
        s.due("all removed ones are gone", "2220002", () -> states(x));
        s.due("the position stays in the new tree", 3, () -> x.next(0));
        IntervalTree y = Samples.points(10);
        y.setRebuildPercentage(10);
        y.open(0, 0);
        y.next(0);
        y.removeCurrent(0);
        s.due("one of ten at 10", 0, () -> y.rebuildCount());
        y.next(0);
        y.removeCurrent(0);
        s.due("two of ten at 10", 1, () -> y.rebuildCount());

        s.says("- `cursor`: the cursor, 0 to 3");
        s.due("the least", 1, () -> removedAt(0));
        s.due("the greatest", 1, () -> removedAt(3));

        s.says("Returns the number of live intervals afterwards.");
        IntervalTree z = Samples.points(2);
        z.open(2, 0);
        z.next(2);
        s.due("one", 1, () -> z.removeCurrent(2));
        z.next(2);
        s.due("none, with a rebuild", 0, () -> z.removeCurrent(2));
    }

    private static int removedAt(int cursor) {
        IntervalTree x = Samples.points(2);
        x.open(cursor, 0);
        x.next(cursor);
        return x.removeCurrent(cursor);
    }

    private static String states(IntervalTree x) {
        StringBuilder states = new StringBuilder();
        for (int i = 0; i < 10; i++) {
            int id = i;
            String state = Checks.outcome(() -> x.state(id));
            states.append(state.length() == 1 ? state : "");
        }
        return states.toString();
    }

    private void removeCurrentRefused() {
        s.says("Throws `IllegalArgumentException` if the cursor does not exist");
        IntervalTree x = Samples.points(8);
        for (int cursor : NO_CURSORS) {
            s.illegalArgument("cursor " + cursor, () -> x.removeCurrent(cursor));
        }

        s.says("Throws `IllegalStateException` if the cursor is closed, next has not returned an interval since the");
        s.illegalState("closed", () -> x.removeCurrent(0));
        x.open(0, 0);
        s.illegalState("opened", () -> x.removeCurrent(0));
        x.hasNext(0);
        s.illegalState("asked for more", () -> x.removeCurrent(0));
        x.next(0);
        x.open(0, 0);
        s.illegalState("opened again after next", () -> x.removeCurrent(0));
        x.next(0);
        x.removeCurrent(0);
        s.illegalState("after removeCurrent", () -> x.removeCurrent(0));
        x.next(0);
        x.remove(1);
        s.illegalState("removed by remove", () -> x.removeCurrent(0));
        x.rebuild();
        s.illegalState("gone", () -> x.removeCurrent(0));
        x.next(0);
        x.open(1, 0);
        x.next(1);
        x.removeCurrent(1);
        s.illegalState("removed at another cursor", () -> x.removeCurrent(0));
        x.restore(2);
        s.due("live again", 5, () -> x.removeCurrent(0));
        x.open(2, 0);
        for (int i = 3; i < 8; i++) {
            x.next(2);
        }
        s.noSuchElement("at the end", () -> x.next(2));
        s.due("the last one that was returned", 4, () -> x.removeCurrent(2));
        x.save();
        x.next(1);
        x.load();
        s.illegalState("closed by load", () -> x.removeCurrent(1));
        x.open(1, 0);
        s.illegalState("opened after load", () -> x.removeCurrent(1));
        IntervalTree none = new IntervalTree();
        none.open(0, 0);
        s.noSuchElement("no interval", () -> none.next(0));
        s.illegalState("next returned nothing", () -> none.removeCurrent(0));
    }

    private static IntervalTree withCopy(Supplier<IntervalTree> maker, Consumer<IntervalTree> changes) {
        IntervalTree x = maker.get();
        x.save();
        changes.accept(x);
        x.load();
        return x;
    }

    /** Checks that a copy brings back the whole tree after some changes. */
    private void broughtBack(String what, Supplier<IntervalTree> maker, Consumer<IntervalTree> changes) {
        s.due(what, Sights.tree(maker.get()), () -> Sights.tree(withCopy(maker, changes)));
    }

    private void save() {
        s.in("51");
        s.says("Saves a copy of all intervals, the tree, the rebuild percentage, the number of inserted intervals and");
        broughtBack("insertions", Samples::busy, x -> {
            x.insert(0, 0, 0);
            x.insert(7, 7, 7);
        });
        broughtBack("removals", Samples::busy, x -> x.remove(1));
        broughtBack("restorations", Samples::busy, x -> x.restore(0));
        broughtBack("weights", Samples::busy, x -> x.addWeight(MIN, MAX, 3));
        broughtBack("rebuilds", Samples::busy, x -> x.rebuild());
        broughtBack("the percentage", Samples::busy, x -> x.setRebuildPercentage(11));
        broughtBack("a rebuild of nothing", IntervalTree::new, x -> x.rebuild());
        broughtBack("all of it", Samples::busy, x -> {
            x.setRebuildPercentage(10);
            for (int id = 3; id < 9; id++) {
                x.remove(id);
            }
            x.addWeight(MIN, MAX, -3);
            x.insert(0, 0, 0);
        });
        broughtBack("a full tree", () -> Samples.hundred(1), x -> x.insert(0, 0, 0));
        broughtBack("an empty tree", IntervalTree::new, x -> x.insert(0, 0, 0));
        broughtBack("only removed ones", Samples::onlyRemoved, x -> x.rebuild());
        Sights.unchanged(s, "a second copy", () -> {
            IntervalTree x = Samples.busy();
            x.save();
            return x;
        }, x -> x.save());
        s.due("cursors stay open", "true true", () -> {
            IntervalTree x = Samples.busy();
            x.save();
            return x.hasNext(0) + " " + x.hasNext(1);
        });
    }

    private void saveReplaces() {
        s.says("It replaces an earlier copy.");
        IntervalTree x = Samples.points(2);
        x.save();
        x.remove(0);
        x.save();
        x.restore(0);
        x.insert(5, 5, 0);
        x.load();
        s.due("the later copy", "10", () -> states(x));
        x.insert(6, 6, 0);
        x.save();
        x.remove(2);
        x.load();
        s.due("a copy after a load", "100", () -> states(x));

        s.says("Returns the number of live intervals.");
        s.due("none", 0, () -> new IntervalTree().save());
        s.due("none is live", 0, () -> Samples.onlyRemoved().save());
        s.due("all are live", 100, () -> Samples.hundred(0).save());
        s.due("some are live", 2, () -> Samples.mixed().save());
    }

    private void load() {
        s.in("52");
        s.says("Restores the copy made by the latest call of save, with the counts of rebuilds.");
        IntervalTree x = Samples.points(3);
        x.rebuild();
        x.save();
        x.rebuild();
        x.remove(0);
        x.rebuild();
        s.due("before: rebuilds", "3 8", () -> x.rebuildCount() + " " + x.rebuiltNodes());
        x.load();
        s.due("after: rebuilds", "1 3", () -> x.rebuildCount() + " " + x.rebuiltNodes());
        s.due("after: states", "000", () -> states(x));
        s.due("after: shape", "1B(0B,2B)", () -> Samples.shape(x));

        s.says("The copy remains available.");
        for (int i = 0; i < 3; i++) {
            x.insert(9, 9, 0);
            x.remove(1);
            x.addWeight(MIN, MAX, 5);
            s.due("load " + i, 3, () -> x.load());
            s.due("states " + i, "000", () -> states(x));
            s.due("weight " + i, 0, () -> x.weight(1));
        }
        s.due("twice in a row", 3, () -> x.load());

        s.says("Filters and the text buffer stay as they are.");
        IntervalTree y = Samples.busy();
        y.feed('3');
        y.load();
        s.due("filters", 6, () -> y.parseFilter());
        s.due("a filter of before", 2, () -> y.matchCount(3));
        s.due("the text", 3, () -> y.matchCount(6));
        s.due("the text was read", 1, () -> y.feed('5'));
        y.load();
        s.due("the text stays again", 2, () -> y.feed('5'));

        s.says("Ids that were assigned after the copy was made are assigned again.");
        IntervalTree z = Samples.points(2);
        z.save();
        s.due("at first", 2, () -> z.insert(5, 5, 1));
        z.load();
        s.noSuchElement("it was not inserted", () -> z.state(2));
        s.noSuchElement("nor can it be restored", () -> z.restore(2));
        s.due("again", 2, () -> z.insert(6, 6, 1));
        s.due("the new one", 6, () -> z.low(2));
        IntervalTree full = Samples.hundred(0);
        full.save();
        full.remove(0);
        full.insert(0, 0, 0);
        full.load();
        s.illegalState("full again", () -> full.insert(0, 0, 0));
        full.remove(1);
        s.due("the id behind the hundred again", 100, () -> full.insert(0, 0, 0));

        s.says("Returns the number of live intervals.");
        s.due("none", 0, () -> withCopy(IntervalTree::new, t -> t.insert(0, 0, 0)).load());
        s.due("some", 2, () -> withCopy(Samples::mixed, t -> t.remove(1)).load());
        s.due("all", 100, () -> withCopy(() -> Samples.hundred(0), t -> t.remove(1)).load());
    }

    private void loadCursors() {
        s.says("All cursors are closed.");
        IntervalTree x = Samples.points(3);
        for (int i = 0; i < 4; i++) {
            x.open(i, 0);
        }
        x.save();
        x.next(1);
        x.load();
        for (int i = 0; i < 4; i++) {
            int cursor = i;
            s.illegalState("hasNext of " + i, () -> x.hasNext(cursor));
            s.illegalState("next of " + i, () -> x.next(cursor));
            s.illegalState("removeCurrent of " + i, () -> x.removeCurrent(cursor));
        }
        s.due("they can be opened", 0, () -> x.open(1, 0));
        s.due("before all", 0, () -> x.next(1));

        s.says("Throws `IllegalStateException` if there is no copy");
        s.illegalState("new", () -> new IntervalTree().load());
        IntervalTree y = Samples.points(3);
        y.open(0, 0);
        y.next(0);
        s.illegalState("never saved", () -> y.load());
        s.due("cursors stay open", 1, () -> y.next(0));
        s.due("intervals stay", 3, () -> y.size());
    }
}
