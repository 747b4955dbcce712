import java.util.LinkedHashMap;
import java.util.Map;
import java.util.function.Function;
import java.util.function.Supplier;

/** What the document says of all exceptions. */
final class ExceptionBoundaries {
    private static final int MIN = Samples.MIN;
    private static final int MAX = Samples.MAX;

    private final Sentences s;

    ExceptionBoundaries(Sentences s) {
        this.s = s;
    }

    void test() {
        s.in("Exceptions");
        s.says("A call that throws an exception changes nothing.");
        refusals().forEach((name, call) -> refused(name, Samples::busy, call));
        filterRefusals().forEach((name, call) -> refused(name + " with 8 filters", Samples::manyFilters, call));
        refused("feed with 60 bytes", Samples::muchText, x -> x.feed('1'));
        refused("feed(-1) with 60 bytes", Samples::muchText, x -> x.feed(-1));
        refused("insert into a full tree", () -> Samples.hundred(0), x -> x.insert(0, 0, 0));
        refused("a wrong insert into a full tree", () -> Samples.hundred(1), x -> x.insert(0, 0, -1));
        refused("load without a copy", Samples::mixed, x -> x.load());
        refused("deepestPoint without intervals", Samples::onlyRemoved, x -> x.deepestPoint());
        refused("next at the end", ExceptionBoundaries::atTheEnd, x -> x.next(0));
        refused("removeCurrent after removeCurrent", ExceptionBoundaries::atTheEnd, x -> x.removeCurrent(1));
        order();
    }

    private void refused(String name, Supplier<IntervalTree> maker, Function<IntervalTree, Object> call) {
        s.due(name + " throws", true, () -> Checks.outcome(() -> call.apply(maker.get())).startsWith("throws."));
        Sights.unchanged(s, name, maker, call);
    }

    /** The first cursor is at the end; the interval of the second is removed. */
    private static IntervalTree atTheEnd() {
        IntervalTree x = Samples.points(4);
        x.open(0, 0);
        for (int i = 0; i < 4; i++) {
            x.next(0);
        }
        x.open(1, 0);
        x.next(1);
        x.removeCurrent(1);
        return x;
    }

    /** Calls that busy refuses. */
    private static Map<String, Function<IntervalTree, Object>> refusals() {
        Map<String, Function<IntervalTree, Object>> calls = new LinkedHashMap<>();
        calls.put("insert of a wrong low end", x -> x.insert(-1001, 0, 0));
        calls.put("insert of a wrong high end", x -> x.insert(0, -1, 0));
        calls.put("insert of a wrong weight", x -> x.insert(0, 0, 1000));
        calls.put("remove of a removed one", x -> x.remove(0));
        calls.put("remove of a gone one", x -> x.remove(2));
        calls.put("remove of none", x -> x.remove(10));
        calls.put("restore of a live one", x -> x.restore(1));
        calls.put("restore of a gone one", x -> x.restore(2));
        calls.put("restore of none", x -> x.restore(10));
        calls.put("setRebuildPercentage(9)", x -> x.setRebuildPercentage(9));
        calls.put("addWeight of a wrong range", x -> x.addWeight(1, 0, 5));
        calls.put("addWeight of a wrong number", x -> x.addWeight(MIN, MAX, 1001));
        calls.put("state", x -> x.state(10));
        calls.put("low", x -> x.low(2));
        calls.put("high", x -> x.high(2));
        calls.put("weight", x -> x.weight(2));
        calls.put("parent", x -> x.parent(2));
        calls.put("child", x -> x.child(2, true));
        calls.put("isRed", x -> x.isRed(2));
        calls.put("subtreeSize", x -> x.subtreeSize(2));
        calls.put("subtreeHigh", x -> x.subtreeHigh(2));
        calls.put("subtreeWeight", x -> x.subtreeWeight(2));
        calls.put("heaviest", x -> x.heaviest(5, -1));
        calls.put("heaviestOverlap", x -> x.heaviestOverlap(5, 4, 0));
        calls.put("firstOverlap", x -> x.firstOverlap(5, 4));
        calls.put("rank", x -> x.rank(0));
        calls.put("select", x -> x.select(7));
        calls.put("nearest", x -> x.nearest(2001));
        calls.put("covered", x -> x.covered(-2001, 0));
        calls.put("scheduled", x -> x.scheduled(-1));
        calls.put("piercingPoint", x -> x.piercingPoint(-1));
        calls.putAll(filterAndCursorRefusals());
        return calls;
    }

    private static Map<String, Function<IntervalTree, Object>> filterAndCursorRefusals() {
        Map<String, Function<IntervalTree, Object>> calls = new LinkedHashMap<>();
        calls.put("addRangeFilter of a wrong property", x -> x.addRangeFilter(4, 0, 0));
        calls.put("addRangeFilter of a wrong range", x -> x.addRangeFilter(0, 1, 0));
        calls.put("addHeavierFilter", x -> x.addHeavierFilter(2));
        calls.put("addCombinedFilter of a wrong kind", x -> x.addCombinedFilter(3, 0, 0));
        calls.put("addCombinedFilter of no filter", x -> x.addCombinedFilter(0, 0, 6));
        calls.put("feed(256)", x -> x.feed(256));
        calls.put("matchCount", x -> x.matchCount(6));
        calls.put("accepts of no filter", x -> x.accepts(6, 0));
        calls.put("accepts of a gone one", x -> x.accepts(0, 2));
        calls.put("open of no cursor", x -> x.open(4, 0));
        calls.put("open with no filter", x -> x.open(1, 6));
        calls.put("open of a closed one with no filter", x -> x.open(3, 6));
        calls.put("hasNext of no cursor", x -> x.hasNext(-1));
        calls.put("hasNext of a closed one", x -> x.hasNext(3));
        calls.put("next of no cursor", x -> x.next(4));
        calls.put("next of a closed one", x -> x.next(3));
        calls.put("removeCurrent of no cursor", x -> x.removeCurrent(4));
        calls.put("removeCurrent of a closed one", x -> x.removeCurrent(3));
        calls.put("removeCurrent before next", x -> x.removeCurrent(0));
        calls.put("removeCurrent of a removed one", x -> x.removeCurrent(2));
        return calls;
    }

    /** Calls that an object with 8 filters refuses. */
    private static Map<String, Function<IntervalTree, Object>> filterRefusals() {
        Map<String, Function<IntervalTree, Object>> calls = new LinkedHashMap<>();
        calls.put("addRangeFilter", x -> x.addRangeFilter(0, 0, 0));
        calls.put("addHeavierFilter", x -> x.addHeavierFilter(0));
        calls.put("addCombinedFilter", x -> x.addCombinedFilter(0, 0, 0));
        calls.put("parseFilter", x -> x.parseFilter());
        return calls;
    }

    private void order() {
        s.says("If several exceptions are possible, the one that is mentioned first is thrown.");
        s.illegalArgument("insert: argument, full", () -> Samples.hundred(0).insert(1, 0, 0));
        s.illegalArgument("addRangeFilter: property, 8 filters", () -> Samples.manyFilters().addRangeFilter(-1, 0, 0));
        s.illegalArgument("addRangeFilter: range, 8 filters", () -> Samples.manyFilters().addRangeFilter(0, 1, 0));
        s.noSuchElement("addHeavierFilter: id, 8 filters", () -> Samples.manyFilters().addHeavierFilter(-1));
        s.illegalArgument("addCombinedFilter: kind, 8 filters",
                () -> Samples.manyFilters().addCombinedFilter(-1, 0, 0));
        s.illegalArgument("addCombinedFilter: filter, 8 filters",
                () -> Samples.manyFilters().addCombinedFilter(0, 8, 0));
        s.illegalArgument("feed: letter, 60 bytes", () -> Samples.muchText().feed(256));
        s.illegalArgument("accepts: filter, id", () -> Samples.mixed().accepts(3, 0));
        s.illegalState("next: closed, none follows", () -> new IntervalTree().next(0));
    }
}
