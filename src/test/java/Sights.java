import java.util.LinkedHashMap;
import java.util.Map;
import java.util.function.Function;
import java.util.function.Supplier;

/**
 * What can be seen of an object. Some sights change what they look at, so each one is taken of an object of its own:
 * two objects that were made alike are in the same state if all sights of them are the same.
 */
final class Sights {
    private static final int FEW_NODES = 30;
    private static final Map<String, Function<IntervalTree, String>> ALL = new LinkedHashMap<>();

    static {
        ALL.put("tree", Sights::tree);
        ALL.put("filters", Sights::filters);
        ALL.put("cursors", Sights::cursors);
        ALL.put("current intervals", Sights::currents);
        ALL.put("text", Sights::text);
        ALL.put("copy", Sights::copy);
    }

    private Sights() {
    }

    /** Checks that a call, whatever it answers, changes nothing of an object. */
    static void unchanged(Sentences s, String what, Supplier<IntervalTree> maker, Function<IntervalTree, Object> call) {
        ALL.forEach((name, sight) -> {
            IntervalTree touched = maker.get();
            Checks.outcome(() -> call.apply(touched));
            s.due(what + " leaves the " + name, sight.apply(maker.get()), () -> sight.apply(touched));
        });
    }

    /** Checks that two ways to make an object lead to the same state. */
    static void alike(Sentences s, String what, Supplier<IntervalTree> one, Supplier<IntervalTree> other) {
        ALL.forEach((name, sight) -> s.due(what + ": " + name, sight.apply(one.get()), () -> sight.apply(other.get())));
    }

    static String tree(IntervalTree x) {
        StringBuilder seen = new StringBuilder();
        seen.append(x.size()).append(' ').append(x.nodeCount()).append(' ').append(x.height());
        seen.append(' ').append(x.rebuildCount()).append(' ').append(x.rebuiltNodes()).append(' ').append(x.digest());
        seen.append(' ').append(x.setRebuildPercentage(50));
        boolean few = x.nodeCount() <= FEW_NODES;
        for (int id = 0; inserted(x, id); id++) {
            seen.append(" | ").append(x.state(id));
            if (x.state(id) < 2) {
                seen.append(' ').append(x.weight(id)).append(few ? node(x, id) : "");
            }
        }
        return seen.toString();
    }

    private static boolean inserted(IntervalTree x, int id) {
        return !Checks.outcome(() -> x.state(id)).startsWith("throws.");
    }

    private static String node(IntervalTree x, int id) {
        return " " + x.low(id) + " " + x.high(id) + " " + x.parent(id) + " " + x.child(id, false) + " "
                + x.child(id, true) + " " + x.isRed(id);
    }

    static String filters(IntervalTree x) {
        StringBuilder seen = new StringBuilder();
        for (int f = 0; f < 9; f++) {
            int filter = f;
            seen.append(" | ").append(Checks.outcome(() -> x.matchCount(filter)));
            for (int i = 0; i < 20; i++) {
                int id = i;
                seen.append(' ').append(Checks.outcome(() -> x.accepts(filter, id)));
            }
        }
        return seen.toString();
    }

    static String cursors(IntervalTree x) {
        StringBuilder seen = new StringBuilder();
        for (int i = 0; i < 4; i++) {
            int cursor = i;
            seen.append(" | ").append(Checks.outcome(() -> x.hasNext(cursor)));
            String answer = "";
            for (int steps = 0; steps < 101 && !answer.startsWith("throws."); steps++) {
                answer = Checks.outcome(() -> x.next(cursor));
                seen.append(' ').append(answer);
            }
        }
        return seen.toString();
    }

    static String currents(IntervalTree x) {
        StringBuilder seen = new StringBuilder();
        for (int i = 0; i < 4; i++) {
            int cursor = i;
            seen.append(' ').append(Checks.outcome(() -> x.removeCurrent(cursor)));
            seen.append(' ').append(x.digest());
        }
        return seen.toString();
    }

    static String text(IntervalTree x) {
        StringBuilder seen = new StringBuilder();
        seen.append(Checks.outcome(() -> x.feed('5')));
        String filter = Checks.outcome(() -> x.parseFilter());
        seen.append(' ').append(filter);
        if (filter.length() == 1) {
            seen.append(' ').append(x.matchCount(Integer.parseInt(filter)));
        }
        return seen.append(' ').append(Checks.outcome(() -> x.feed('5'))).toString();
    }

    static String copy(IntervalTree x) {
        return Checks.outcome(() -> x.load()) + " " + tree(x);
    }
}
