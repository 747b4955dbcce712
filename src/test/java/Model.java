import java.util.ArrayList;
import java.util.HashMap;
import java.util.List;
import java.util.Map;
import java.util.NoSuchElementException;
import java.util.TreeMap;
import java.util.function.Predicate;
import java.util.zip.CRC32;

/** The document's face a second time, by plain search over points, sets and definitions: slow, and unlike the class. */
public final class Model implements Cloneable {
    static final class Item {
        int id, low, high, weight, state;

        Item(int id, int low, int high, int weight) {
            this.id = id;
            this.low = low;
            this.high = high;
            this.weight = weight;
        }

        boolean has(int p) {
            return low <= p && p <= high;
        }

        List<Integer> key() {
            return List.of(low, high, id);
        }
    }

    static int compareKeys(List<Integer> a, List<Integer> b) {
        for (int i = 0; i < 3; i++) {
            if (!a.get(i).equals(b.get(i))) {
                return a.get(i).compareTo(b.get(i));
            }
        }
        return 0;
    }

    /** What save copies. Links are ids, -1 for none. */
    static final class State {
        List<Item> items = new ArrayList<>();
        Map<Integer, Integer> parent = new HashMap<>();
        Map<Integer, Integer> left = new HashMap<>();
        Map<Integer, Integer> right = new HashMap<>();
        Map<Integer, Boolean> red = new HashMap<>();
        int root = -1;
        int percentage = 50;
        int rebuilds = 0;
        int rebuilt = 0;

        State copy() {
            State c = new State();
            for (Item i : items) {
                Item j = new Item(i.id, i.low, i.high, i.weight);
                j.state = i.state;
                c.items.add(j);
            }
            c.parent.putAll(parent);
            c.left.putAll(left);
            c.right.putAll(right);
            c.red.putAll(red);
            c.root = root;
            c.percentage = percentage;
            c.rebuilds = rebuilds;
            c.rebuilt = rebuilt;
            return c;
        }
    }

    static final class Place {
        int filter;
        List<Integer> position;
    }

    private State s = new State();
    private State copy;
    private final List<Predicate<Item>> filters = new ArrayList<>();
    private final StringBuilder text = new StringBuilder();
    private final Place[] cursors = new Place[4];

    public Model() {
        filters.add(i -> true);
        filters.add(i -> i.low == i.high);
        filters.add(i -> live().stream().anyMatch(j -> j.id != i.id && meets(i, j)));
    }

    static boolean meets(Item i, Item j) {
        for (int p = i.low; p <= i.high; p++) {
            if (j.has(p)) {
                return true;
            }
        }
        return false;
    }

    private List<Item> present() {
        TreeMap<List<Integer>, Item> sorted = new TreeMap<>(Model::compareKeys);
        for (Item i : s.items) {
            if (i.state < 2) {
                sorted.put(i.key(), i);
            }
        }
        return new ArrayList<>(sorted.values());
    }

    private List<Item> live() {
        List<Item> l = present();
        l.removeIf(i -> i.state != 0);
        return l;
    }

    private Item inserted(int id) {
        if (id < 0 || id >= s.items.size()) {
            throw new NoSuchElementException();
        }
        return s.items.get(id);
    }

    private Item inTree(int id) {
        Item i = inserted(id);
        if (i.state == 2) {
            throw new NoSuchElementException();
        }
        return i;
    }

    private Item alive(int id) {
        Item i = inserted(id);
        if (i.state != 0) {
            throw new NoSuchElementException();
        }
        return i;
    }

    static void argument(boolean fine) {
        if (!fine) {
            throw new IllegalArgumentException();
        }
    }

    static void state(boolean fine) {
        if (!fine) {
            throw new IllegalStateException();
        }
    }

    // the tree, in the textbook's way: left and right rotations apart

    private int up(int n) {
        return n == -1 ? -1 : s.parent.get(n);
    }

    private boolean reddish(int n) {
        return n != -1 && s.red.get(n);
    }

    private void replace(int old, int with) {
        int p = s.parent.get(old);
        if (p == -1) {
            s.root = with;
        } else if (s.left.get(p) == old) {
            s.left.put(p, with);
        } else {
            s.right.put(p, with);
        }
        if (with != -1) {
            s.parent.put(with, p);
        }
    }

    private void rotateLeft(int x) {
        int y = s.right.get(x);
        int inner = s.left.get(y);
        replace(x, y);
        s.right.put(x, inner);
        if (inner != -1) {
            s.parent.put(inner, x);
        }
        s.left.put(y, x);
        s.parent.put(x, y);
    }

    private void rotateRight(int x) {
        int y = s.left.get(x);
        int inner = s.right.get(y);
        replace(x, y);
        s.left.put(x, inner);
        if (inner != -1) {
            s.parent.put(inner, x);
        }
        s.right.put(y, x);
        s.parent.put(x, y);
    }

    private void grow(Item item) {
        int z = item.id;
        int at = s.root;
        int p = -1;
        boolean right = false;
        while (at != -1) {
            p = at;
            right = compareKeys(item.key(), s.items.get(at).key()) > 0;
            at = right ? s.right.get(at) : s.left.get(at);
        }
        s.parent.put(z, p);
        s.left.put(z, -1);
        s.right.put(z, -1);
        s.red.put(z, true);
        if (p == -1) {
            s.root = z;
        } else {
            (right ? s.right : s.left).put(p, z);
        }
        while (reddish(up(z))) {
            int q = up(z);
            int g = up(q);
            boolean left = s.left.get(g) == q;
            int uncle = left ? s.right.get(g) : s.left.get(g);
            if (reddish(uncle)) {
                s.red.put(q, false);
                s.red.put(uncle, false);
                s.red.put(g, true);
                z = g;
                continue;
            }
            if (left) {
                if (s.right.get(q) == z) {
                    z = q;
                    rotateLeft(z);
                }
                s.red.put(up(z), false);
                s.red.put(g, true);
                rotateRight(g);
            } else {
                if (s.left.get(q) == z) {
                    z = q;
                    rotateRight(z);
                }
                s.red.put(up(z), false);
                s.red.put(g, true);
                rotateLeft(g);
            }
        }
        s.red.put(s.root, false);
    }

    private int depth(int id) {
        int d = 0;
        for (int n = up(id); n != -1; n = up(n)) {
            d++;
        }
        return d;
    }

    private int shape(List<Item> l, int a, int b, int p) {
        if (a >= b) {
            return -1;
        }
        int m = Math.floorDiv(a + b, 2);
        int id = l.get(m).id;
        s.parent.put(id, p);
        s.red.put(id, false);
        s.left.put(id, shape(l, a, m, id));
        s.right.put(id, shape(l, m + 1, b, id));
        return id;
    }

    public int rebuild() {
        int gone = 0;
        for (Item i : s.items) {
            if (i.state == 1) {
                i.state = 2;
                gone++;
            }
        }
        s.parent.clear();
        s.left.clear();
        s.right.clear();
        s.red.clear();
        List<Item> l = live();
        s.root = shape(l, 0, l.size(), -1);
        Map<Integer, Integer> levels = new TreeMap<>();
        for (Item i : l) {
            levels.merge(depth(i.id), 1, Integer::sum);
        }
        if (!l.isEmpty()) {
            int deepest = levels.size() - 1;
            if (levels.get(deepest) != 1 << deepest) {
                for (Item i : l) {
                    s.red.put(i.id, depth(i.id) == deepest);
                }
            }
        }
        s.rebuilds++;
        s.rebuilt += l.size();
        return gone;
    }

    public int insert(int low, int high, int weight) {
        argument(-1000 <= low && low <= 1000 && low <= high && high <= 1000 && 0 <= weight && weight <= 999);
        List<Item> all = present();
        boolean someRemoved = all.stream().anyMatch(i -> i.state == 1);
        state(all.size() < 100 || someRemoved);
        state(s.items.size() < 500);
        if (all.size() == 100) {
            rebuild();
        }
        Item i = new Item(s.items.size(), low, high, weight);
        s.items.add(i);
        grow(i);
        return i.id;
    }

    private int take(Item i) {
        i.state = 1;
        List<Item> all = present();
        long removed = all.stream().filter(j -> j.state == 1).count();
        if (100 * removed > s.percentage * all.size()) {
            rebuild();
        }
        return size();
    }

    public int remove(int id) {
        return take(alive(id));
    }

    public int restore(int id) {
        Item i = inserted(id);
        state(i.state == 1);
        i.state = 0;
        return size();
    }

    public int setRebuildPercentage(int percentage) {
        argument(percentage >= 10 && percentage <= 100);
        int old = s.percentage;
        s.percentage = percentage;
        return old;
    }

    public int addWeight(int from, int to, int delta) {
        argument(from <= to && delta >= -1000 && delta <= 1000);
        int n = 0;
        for (Item i : present()) {
            if (i.low >= from && i.low <= to) {
                i.weight += delta;
                n += i.state == 0 ? 1 : 0;
            }
        }
        return n;
    }

    public int size() {
        return live().size();
    }

    public int nodeCount() {
        return present().size();
    }

    public int height() {
        return present().stream().mapToInt(i -> depth(i.id) + 1).max().orElse(0);
    }

    public int rebuildCount() {
        return s.rebuilds;
    }

    public int rebuiltNodes() {
        return s.rebuilt;
    }

    public int state(int id) {
        return inserted(id).state;
    }

    public int low(int id) {
        return inTree(id).low;
    }

    public int high(int id) {
        return inTree(id).high;
    }

    public int weight(int id) {
        return inTree(id).weight;
    }

    public int parent(int id) {
        return s.parent.get(inTree(id).id);
    }

    public int child(int id, boolean right) {
        return (right ? s.right : s.left).get(inTree(id).id);
    }

    public boolean isRed(int id) {
        return s.red.get(inTree(id).id);
    }

    private void gather(int n, List<Item> l) {
        if (n != -1) {
            if (s.items.get(n).state == 0) {
                l.add(s.items.get(n));
            }
            gather(s.left.get(n), l);
            gather(s.right.get(n), l);
        }
    }

    private List<Item> under(int id) {
        List<Item> l = new ArrayList<>();
        gather(inTree(id).id, l);
        return l;
    }

    public int subtreeSize(int id) {
        return under(id).size();
    }

    public int subtreeHigh(int id) {
        List<Item> l = under(id);
        state(!l.isEmpty());
        return l.stream().mapToInt(i -> i.high).max().getAsInt();
    }

    public int subtreeWeight(int id) {
        List<Item> l = under(id);
        state(!l.isEmpty());
        return l.stream().mapToInt(i -> i.weight).max().getAsInt();
    }

    private void walk(int n, CRC32 crc) {
        if (n != -1) {
            crc.update(n % 256);
            crc.update(n / 256);
            crc.update(s.red.get(n) ? 1 : 0);
            crc.update(s.items.get(n).state);
            walk(s.left.get(n), crc);
            walk(s.right.get(n), crc);
        }
    }

    /** The document's digest is the usual CRC-32 without the inversion at the end. */
    public int digest() {
        CRC32 crc = new CRC32();
        walk(s.root, crc);
        return ~(int) crc.getValue();
    }

    public int stabCount(int point) {
        return (int) live().stream().filter(i -> i.has(point)).count();
    }

    public int stabWeight(int point) {
        return live().stream().filter(i -> i.has(point)).mapToInt(i -> i.weight).sum();
    }

    private static int kth(List<Item> l, int k) {
        l.sort((a, b) -> a.weight != b.weight ? Integer.compare(b.weight, a.weight) : Integer.compare(a.id, b.id));
        return k < l.size() ? l.get(k).id : -1;
    }

    public int heaviest(int point, int k) {
        argument(k >= 0);
        List<Item> l = live();
        l.removeIf(i -> !i.has(point));
        return kth(l, k);
    }

    private List<Item> meeting(int from, int to) {
        List<Item> l = live();
        l.removeIf(i -> i.high < from || i.low > to);
        return l;
    }

    public int heaviestOverlap(int from, int to, int k) {
        argument(from <= to && k >= 0);
        return kth(meeting(from, to), k);
    }

    public int firstOverlap(int from, int to) {
        argument(from <= to);
        List<Item> l = meeting(from, to);
        return l.isEmpty() ? -1 : l.get(0).id;
    }

    public int floor(int point) {
        List<Item> l = live();
        l.removeIf(i -> i.low > point);
        return l.isEmpty() ? -1 : l.get(l.size() - 1).id;
    }

    public int ceiling(int point) {
        List<Item> l = live();
        l.removeIf(i -> i.low < point);
        return l.isEmpty() ? -1 : l.get(0).id;
    }

    public int rank(int id) {
        return live().indexOf(alive(id));
    }

    public int select(int k) {
        List<Item> l = live();
        if (k < 0 || k >= l.size()) {
            throw new IndexOutOfBoundsException();
        }
        return l.get(k).id;
    }

    public int nearest(int point) {
        argument(point >= -2000 && point <= 2000);
        List<Item> l = live();
        for (int d = 0; d <= 3000; d++) {
            for (Item i : l) {
                if (i.has(point - d) || i.has(point + d)) {
                    return i.id;
                }
            }
        }
        return -1;
    }

    public int covered(int from, int to) {
        argument(from >= -2000 && from <= 2000 && to >= from && to <= 2000);
        List<Item> l = live();
        int n = 0;
        for (int p = from; p <= to; p++) {
            final int q = p;
            n += l.stream().anyMatch(i -> i.has(q)) ? 1 : 0;
        }
        return n;
    }

    public int deepestPoint() {
        List<Item> l = live();
        if (l.isEmpty()) {
            throw new NoSuchElementException();
        }
        int best = 0;
        long most = -1;
        for (int p = -1000; p <= 1000; p++) {
            final int q = p;
            long n = l.stream().filter(i -> i.has(q)).count();
            if (n > most) {
                most = n;
                best = p;
            }
        }
        return best;
    }

    public int overlapCount() {
        List<Item> l = live();
        int n = 0;
        for (Item i : l) {
            for (Item j : l) {
                n += i.id < j.id && meets(i, j) ? 1 : 0;
            }
        }
        return n;
    }

    /** The greatest sum of a schedule of some intervals, point by point. */
    private static int bestSum(List<Item> l) {
        int[] best = new int[2002];
        for (int p = -1000; p <= 1000; p++) {
            int b = best[p + 1000];
            for (Item i : l) {
                if (i.high == p) {
                    b = Math.max(b, best[i.low + 1000] + i.weight);
                }
            }
            best[p + 1001] = b;
        }
        return best[2001];
    }

    public int scheduleWeight() {
        return bestSum(live());
    }

    public int scheduled(int i) {
        List<Item> l = live();
        int greatest = bestSum(l);
        List<Item> set = new ArrayList<>();
        List<Item> out = new ArrayList<>();
        for (Item x : l) {
            if (set.stream().anyMatch(y -> meets(x, y))) {
                out.add(x);
                continue;
            }
            out.add(x);
            List<Item> rest = new ArrayList<>(l);
            rest.removeAll(out);
            rest.removeIf(y -> set.contains(y) || set.stream().anyMatch(z -> meets(y, z)));
            int sum = set.stream().mapToInt(y -> y.weight).sum();
            if (sum + bestSum(rest) != greatest) {
                out.remove(x);
                set.add(x);
            }
        }
        if (i < 0 || i >= set.size()) {
            throw new IndexOutOfBoundsException();
        }
        return set.get(i).id;
    }

    public int piercingPoint(int i) {
        List<Integer> points = new ArrayList<>();
        List<Item> l = live();
        while (!l.isEmpty()) {
            int p = l.stream().mapToInt(x -> x.high).min().getAsInt();
            points.add(p);
            l.removeIf(x -> x.has(p));
        }
        if (i < 0 || i >= points.size()) {
            throw new IndexOutOfBoundsException();
        }
        return points.get(i);
    }

    private int enter(Predicate<Item> f) {
        filters.add(f);
        return filters.size() - 1;
    }

    static int property(int kind, Item i) {
        return new int[] {i.low, i.high, i.weight, i.high - i.low}[kind];
    }

    public int addRangeFilter(int property, int from, int to) {
        argument(property >= 0 && property <= 3 && from <= to);
        state(filters.size() < 8);
        return enter(i -> property(property, i) >= from && property(property, i) <= to);
    }

    public int addHeavierFilter(int id) {
        int w = inTree(id).weight;
        state(filters.size() < 8);
        return enter(i -> i.weight > w);
    }

    private Predicate<Item> filter(int f) {
        argument(f >= 0 && f < filters.size());
        return filters.get(f);
    }

    public int addCombinedFilter(int kind, int first, int second) {
        argument(kind >= 0 && kind <= 2);
        Predicate<Item> a = filter(first);
        Predicate<Item> b = filter(second);
        state(filters.size() < 8);
        return enter(kind == 0 ? a.and(b) : kind == 1 ? a.or(b) : a.and(b.negate()));
    }

    public int feed(int letter) {
        argument(letter >= 0 && letter <= 255);
        state(text.length() < 60);
        text.append((char) letter);
        return text.length();
    }

    public int parseFilter() {
        state(filters.size() < 8);
        Descent d = new Descent(text.toString(), filters);
        text.setLength(0);
        Predicate<Item> f = d.whole();
        return f == null ? -100 - d.at : enter(f);
    }

    /** A recursive descent, by the grammar's rules. A rule answers null when it stops at an error. */
    static final class Descent {
        final String text;
        final List<Predicate<Item>> filters;
        int at = 0;
        int hashes = 0;

        Descent(String text, List<Predicate<Item>> filters) {
            this.text = text;
            this.filters = filters;
        }

        boolean sees(String any) {
            return at < text.length() && any.indexOf(text.charAt(at)) >= 0;
        }

        Predicate<Item> whole() {
            Predicate<Item> f = filter();
            return at == text.length() ? f : null;
        }

        Predicate<Item> filter() {
            Predicate<Item> f = term();
            while (f != null && sees("|")) {
                at++;
                Predicate<Item> g = term();
                f = g == null ? null : f.or(g);
            }
            return f;
        }

        Predicate<Item> term() {
            Predicate<Item> f = factor();
            while (f != null && sees("&")) {
                at++;
                Predicate<Item> g = factor();
                f = g == null ? null : f.and(g);
            }
            return f;
        }

        Predicate<Item> factor() {
            if (sees("!")) {
                at++;
                Predicate<Item> f = factor();
                return f == null ? null : f.negate();
            }
            if (sees("(")) {
                at++;
                Predicate<Item> f = filter();
                if (f == null || !sees(")")) {
                    return null;
                }
                at++;
                return f;
            }
            if (sees("#")) {
                if (++hashes > 2) {
                    return null;
                }
                at++;
                if (!sees("01234567".substring(0, filters.size()))) {
                    return null;
                }
                return filters.get(text.charAt(at++) - '0');
            }
            return comparison();
        }

        Predicate<Item> comparison() {
            if (!sees("lhwn")) {
                return null;
            }
            int kind = "lhwn".indexOf(text.charAt(at++));
            if (!sees("<=>")) {
                return null;
            }
            int sign = "<=>".indexOf(text.charAt(at++)) - 1;
            int start = at;
            if (sees("-")) {
                at++;
            }
            int digits = 0;
            while (digits < 4 && sees("0123456789")) {
                at++;
                digits++;
            }
            if (digits == 0) {
                return null;
            }
            int number = Integer.parseInt(text.substring(start, at));
            return i -> Integer.compare(property(kind, i), number) == sign;
        }
    }

    public int matchCount(int filter) {
        return (int) live().stream().filter(filter(filter)).count();
    }

    public boolean accepts(int filter, int id) {
        return filter(filter).test(inTree(id));
    }

    private Item following(Place c) {
        for (Item i : live()) {
            boolean later = c.position == null || compareKeys(i.key(), c.position) > 0;
            if (later && filters.get(c.filter).test(i)) {
                return i;
            }
        }
        return null;
    }

    public int open(int cursor, int filter) {
        argument(cursor >= 0 && cursor <= 3);
        filter(filter);
        cursors[cursor] = new Place();
        cursors[cursor].filter = filter;
        Item i = following(cursors[cursor]);
        return i == null ? -1 : i.id;
    }

    private Place opened(int cursor) {
        argument(cursor >= 0 && cursor <= 3);
        state(cursors[cursor] != null);
        return cursors[cursor];
    }

    public boolean hasNext(int cursor) {
        return following(opened(cursor)) != null;
    }

    public int next(int cursor) {
        Place c = opened(cursor);
        Item i = following(c);
        if (i == null) {
            throw new NoSuchElementException();
        }
        c.position = i.key();
        return i.id;
    }

    public int removeCurrent(int cursor) {
        Place c = opened(cursor);
        state(c.position != null);
        Item i = s.items.get(c.position.get(2));
        state(i.state == 0);
        return take(i);
    }

    public int save() {
        copy = s.copy();
        return size();
    }

    public int load() {
        state(copy != null);
        s = copy.copy();
        for (int i = 0; i < 4; i++) {
            cursors[i] = null;
        }
        return size();
    }
}
