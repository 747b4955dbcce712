import java.util.NoSuchElementException;

/**
 * An interval tree: a red-black tree of weighted closed intervals with lazy deletion, rebuilds, weighted stabbing
 * queries, filters and cursors.
 */
public final class IntervalTree {
    private static final int NONE = -1;
    private static final int LEAST_END = -1000;
    private static final int GREATEST_END = 1000;
    private static final int GREATEST_WEIGHT = 999;
    private static final int GREATEST_DELTA = 1000;
    private static final int GREATEST_POINT = 2000;
    private static final int LEAST_PERCENTAGE = 10;
    private static final int GREATEST_PERCENTAGE = 100;
    private static final int FIRST_PERCENTAGE = 50;
    private static final int NODE_LIMIT = 100;
    private static final int INSERTION_LIMIT = 500;
    private static final int FILTER_LIMIT = 8;
    private static final int CURSOR_COUNT = 4;
    private static final int TEXT_LIMIT = 60;
    private static final int REFERENCE_LIMIT = 2;
    private static final int DIGIT_LIMIT = 4;
    private static final int TEXT_ERROR = -100;

    // A red-black tree of 100 nodes has at most 13 levels; the recursions refuse what lies far below that.
    private static final int DEPTH_LIMIT = 40;

    private static final int LOW = 0;
    private static final int HIGH = 1;
    private static final int WEIGHT = 2;
    private static final int LENGTH = 3;

    private static final int BOTH = 0;
    private static final int EITHER = 1;
    private static final int FIRST_ONLY = 2;

    // The operators stand in the order in which they bind, the tightest first: the text reader compares them.
    private static final int STEP_RANGE = 0;
    private static final int STEP_OVERLAPPING = 1;
    private static final int STEP_REFERENCE = 2;
    private static final int STEP_NOT = 3;
    private static final int STEP_AND = 4;
    private static final int STEP_OR = 5;
    private static final int STEP_OPEN = 6;

    private final int[] digestTable;
    private final Filter[] filters;
    private int filterCount;
    private final Cursor[] cursors;
    private final int[] text;
    private int textLength;
    private Tree tree;
    private Tree saved;

    public IntervalTree() {
        digestTable = makeDigestTable();
        filters = new Filter[FILTER_LIMIT];
        filterCount = 0;
        addFilter(rangeFilter(LENGTH, Integer.MIN_VALUE, Integer.MAX_VALUE));
        addFilter(rangeFilter(LENGTH, 0, 0));
        addFilter(overlappingFilter());
        cursors = new Cursor[CURSOR_COUNT];
        for (int i = 0; i < CURSOR_COUNT; i++) {
            cursors[i] = new Cursor();
        }
        text = new int[TEXT_LIMIT];
        textLength = 0;
        tree = new Tree();
        saved = null;
    }

    // ---- changes ----

    public int insert(int low, int high, int weight) throws IllegalArgumentException, IllegalStateException {
        if (low < LEAST_END || low > GREATEST_END || high < low || high > GREATEST_END) {
            throw new IllegalArgumentException("an end is out of range");
        }
        if (weight < 0 || weight > GREATEST_WEIGHT) {
            throw new IllegalArgumentException("the weight is out of range");
        }
        boolean full = tree.nodes >= NODE_LIMIT;
        if (full && tree.live >= tree.nodes) {
            throw new IllegalStateException("the tree is full");
        }
        if (tree.inserted >= INSERTION_LIMIT) {
            throw new IllegalStateException("too many intervals have been inserted");
        }
        if (full) {
            tree.renew();
        }
        return tree.add(low, high, weight);
    }

    public int remove(int id) throws NoSuchElementException {
        tree.markRemoved(liveNode(id));
        return tree.live;
    }

    public int restore(int id) throws NoSuchElementException, IllegalStateException {
        if (!tree.wasInserted(id)) {
            throw new NoSuchElementException("no interval with this id was inserted");
        }
        Node node = tree.find(id);
        if (node == null || !node.removed) {
            throw new IllegalStateException("the interval is live or gone");
        }
        node.removed = false;
        tree.live++;
        return tree.live;
    }

    public int rebuild() {
        return tree.renew();
    }

    public int setRebuildPercentage(int percentage) throws IllegalArgumentException {
        if (percentage < LEAST_PERCENTAGE || percentage > GREATEST_PERCENTAGE) {
            throw new IllegalArgumentException("the percentage is out of range");
        }
        int previous = tree.percentage;
        tree.percentage = percentage;
        return previous;
    }

    public int addWeight(int from, int to, int delta) throws IllegalArgumentException {
        checkRange(from, to);
        if (delta < -GREATEST_DELTA || delta > GREATEST_DELTA) {
            throw new IllegalArgumentException("delta is out of range");
        }
        int count = 0;
        for (Node n = tree.first; n != null; n = n.after) {
            if (n.low >= from && n.low <= to) {
                n.weight += delta;
                count += n.removed ? 0 : 1;
            }
        }
        return count;
    }

    // ---- the tree ----

    public int size() {
        return tree.live;
    }

    public int nodeCount() {
        return tree.nodes;
    }

    public int height() {
        int levels = 0;
        for (Node n = tree.first; n != null; n = n.after) {
            levels = Math.max(levels, n.level());
        }
        return levels;
    }

    public int rebuildCount() {
        return tree.rebuilds;
    }

    public int rebuiltNodes() {
        return tree.rebuilt;
    }

    public int state(int id) throws NoSuchElementException {
        if (!tree.wasInserted(id)) {
            throw new NoSuchElementException("no interval with this id was inserted");
        }
        Node node = tree.find(id);
        if (node == null) {
            return 2;
        }
        return node.removed ? 1 : 0;
    }

    public int low(int id) throws NoSuchElementException {
        return presentNode(id).low;
    }

    public int high(int id) throws NoSuchElementException {
        return presentNode(id).high;
    }

    public int weight(int id) throws NoSuchElementException {
        return presentNode(id).weight;
    }

    public int parent(int id) throws NoSuchElementException {
        return idOf(presentNode(id).parent);
    }

    public int child(int id, boolean right) throws NoSuchElementException {
        Node node = presentNode(id);
        return idOf(right ? node.right : node.left);
    }

    public boolean isRed(int id) throws NoSuchElementException {
        return presentNode(id).red;
    }

    public int subtreeSize(int id) throws NoSuchElementException {
        Node node = presentNode(id);
        Node end = node.rightmost().after;
        int count = 0;
        for (Node n = node.leftmost(); n != null && n != end; n = n.after) {
            count += n.removed ? 0 : 1;
        }
        return count;
    }

    public int subtreeHigh(int id) throws NoSuchElementException, IllegalStateException {
        return greatestInSubtree(presentNode(id), HIGH);
    }

    public int subtreeWeight(int id) throws NoSuchElementException, IllegalStateException {
        return greatestInSubtree(presentNode(id), WEIGHT);
    }

    public int digest() {
        return digestOf(tree.root, -1, 0);
    }

    // ---- queries ----
    // The chain of nodes ascends by low ends, so a walk along it can stop where the low ends get too great.

    public int stabCount(int point) {
        int count = 0;
        for (Node n = tree.firstLive(); n != null && n.low <= point; n = n.liveAfter()) {
            count += n.high >= point ? 1 : 0;
        }
        return count;
    }

    public int stabWeight(int point) {
        int sum = 0;
        for (Node n = tree.firstLive(); n != null && n.low <= point; n = n.liveAfter()) {
            sum += n.high >= point ? n.weight : 0;
        }
        return sum;
    }

    public int heaviest(int point, int k) throws IllegalArgumentException {
        if (k < 0) {
            throw new IllegalArgumentException("k is negative");
        }
        return ranked(point, point, k);
    }

    public int heaviestOverlap(int from, int to, int k) throws IllegalArgumentException {
        checkRange(from, to);
        if (k < 0) {
            throw new IllegalArgumentException("k is negative");
        }
        return ranked(from, to, k);
    }

    public int firstOverlap(int from, int to) throws IllegalArgumentException {
        checkRange(from, to);
        for (Node n = tree.firstLive(); n != null && n.low <= to; n = n.liveAfter()) {
            if (n.high >= from) {
                return n.id;
            }
        }
        return NONE;
    }

    public int floor(int point) {
        int found = NONE;
        for (Node n = tree.firstLive(); n != null && n.low <= point; n = n.liveAfter()) {
            found = n.id;
        }
        return found;
    }

    public int ceiling(int point) {
        for (Node n = tree.firstLive(); n != null; n = n.liveAfter()) {
            if (n.low >= point) {
                return n.id;
            }
        }
        return NONE;
    }

    public int rank(int id) throws NoSuchElementException {
        Node node = liveNode(id);
        int smaller = 0;
        for (Node n = tree.firstLive(); n != null && n != node; n = n.liveAfter()) {
            smaller++;
        }
        return smaller;
    }

    public int select(int k) throws IndexOutOfBoundsException {
        int smaller = 0;
        for (Node n = tree.firstLive(); n != null; n = n.liveAfter()) {
            if (smaller == k) {
                return n.id;
            }
            smaller++;
        }
        throw new IndexOutOfBoundsException("k is out of range");
    }

    public int nearest(int point) throws IllegalArgumentException {
        if (point < -GREATEST_POINT || point > GREATEST_POINT) {
            throw new IllegalArgumentException("the point is out of range");
        }
        Node best = null;
        int least = Integer.MAX_VALUE;
        for (Node n = tree.firstLive(); n != null; n = n.liveAfter()) {
            int distance = n.distanceTo(point);
            if (distance < least) {
                least = distance;
                best = n;
            }
        }
        return idOf(best);
    }

    public int covered(int from, int to) throws IllegalArgumentException {
        if (from < -GREATEST_POINT || to > GREATEST_POINT || from > to) {
            throw new IllegalArgumentException("an argument is out of range");
        }
        int count = 0;
        // Low ends ascend along the chain, so all that is still uncounted lies at or after this point.
        int uncounted = from;
        for (Node n = tree.firstLive(); n != null; n = n.liveAfter()) {
            int begin = Math.max(n.low, uncounted);
            int end = Math.min(n.high, to);
            if (begin <= end) {
                count += end - begin + 1;
                uncounted = end + 1;
            }
        }
        return count;
    }

    public int deepestPoint() throws NoSuchElementException {
        int most = 0;
        int deepest = 0;
        // Coming from the left, the count of intervals grows at low ends only, so the least deepest point is one.
        for (Node n = tree.firstLive(); n != null; n = n.liveAfter()) {
            int count = stabCount(n.low);
            if (count > most) {
                most = count;
                deepest = n.low;
            }
        }
        if (most == 0) {
            throw new NoSuchElementException("there are no intervals");
        }
        return deepest;
    }

    public int overlapCount() {
        int pairs = 0;
        for (Node n = tree.firstLive(); n != null; n = n.liveAfter()) {
            // A later interval begins at n.low or after it, so it overlaps n exactly if it begins by n.high.
            for (Node m = n.liveAfter(); m != null && m.low <= n.high; m = m.liveAfter()) {
                pairs++;
            }
        }
        return pairs;
    }

    public int scheduleWeight() {
        planSchedule();
        return bestFrom(tree.first);
    }

    public int scheduled(int i) throws IndexOutOfBoundsException {
        planSchedule();
        int position = 0;
        int reach = Integer.MIN_VALUE;
        for (Node n = tree.firstLive(); n != null; n = n.liveAfter()) {
            // What begins behind the set so far leaves bestFrom(n) to gain; n is needed if less remains without it.
            if (n.low > reach && bestFrom(n.after) < n.best) {
                if (position == i) {
                    return n.id;
                }
                position++;
                reach = n.high;
            }
        }
        throw new IndexOutOfBoundsException("the schedule has no such position");
    }

    public int piercingPoint(int i) throws IndexOutOfBoundsException {
        int begun = 0;
        int point = 0;
        for (Node n = tree.firstLive(); n != null; n = n.liveAfter()) {
            if (begun > 0 && n.low <= point) {
                // n, too, contains none of the points before, and the point is the least high end of all these.
                point = Math.min(point, n.high);
                continue;
            }
            // All from n on begin behind the point, which is therefore settled.
            if (begun > 0 && begun - 1 == i) {
                return point;
            }
            begun++;
            point = n.high;
        }
        if (begun == 0 || begun - 1 != i) {
            throw new IndexOutOfBoundsException("the sequence has no such position");
        }
        return point;
    }

    // ---- filters ----

    public int addRangeFilter(int property, int from, int to) throws IllegalArgumentException, IllegalStateException {
        if (property < LOW || property > LENGTH) {
            throw new IllegalArgumentException("the property is out of range");
        }
        checkRange(from, to);
        checkFilterRoom();
        return addFilter(rangeFilter(property, from, to));
    }

    public int addHeavierFilter(int id) throws NoSuchElementException, IllegalStateException {
        Node node = presentNode(id);
        checkFilterRoom();
        return addFilter(rangeFilter(WEIGHT, node.weight + 1, Integer.MAX_VALUE));
    }

    public int addCombinedFilter(int kind, int first, int second)
            throws IllegalArgumentException, IllegalStateException {
        if (kind < BOTH || kind > FIRST_ONLY) {
            throw new IllegalArgumentException("the kind is out of range");
        }
        checkFilter(first);
        checkFilter(second);
        checkFilterRoom();
        Filter filter = new Filter();
        filter.append(referenceStep(first));
        filter.append(referenceStep(second));
        if (kind == FIRST_ONLY) {
            filter.append(plainStep(STEP_NOT));
        }
        filter.append(plainStep(kind == EITHER ? STEP_OR : STEP_AND));
        return addFilter(filter);
    }

    public int feed(int letter) throws IllegalArgumentException, IllegalStateException {
        if (letter < 0 || letter > 255) {
            throw new IllegalArgumentException("the letter is out of range");
        }
        if (textLength < 0 || textLength >= text.length) {
            throw new IllegalStateException("the text buffer is full");
        }
        text[textLength] = letter;
        textLength++;
        return textLength;
    }

    public int parseFilter() throws IllegalStateException {
        checkFilterRoom();
        TextReader reader = new TextReader(text, textLength, filterCount);
        textLength = 0;
        if (!reader.readAll()) {
            return TEXT_ERROR - reader.position;
        }
        return addFilter(reader.filter);
    }

    public int matchCount(int filter) throws IllegalArgumentException {
        checkFilter(filter);
        int count = 0;
        for (Node n = tree.firstLive(); n != null; n = n.liveAfter()) {
            count += matches(filter, n) ? 1 : 0;
        }
        return count;
    }

    public boolean accepts(int filter, int id) throws IllegalArgumentException, NoSuchElementException {
        checkFilter(filter);
        return matches(filter, presentNode(id));
    }

    // ---- cursors ----

    public int open(int cursor, int filter) throws IllegalArgumentException {
        Cursor c = existingCursor(cursor);
        checkFilter(filter);
        c.start(filter);
        return idOf(following(c));
    }

    public boolean hasNext(int cursor) throws IllegalArgumentException, IllegalStateException {
        return following(openCursor(cursor)) != null;
    }

    public int next(int cursor) throws IllegalArgumentException, IllegalStateException, NoSuchElementException {
        Cursor c = openCursor(cursor);
        Node node = following(c);
        if (node == null) {
            throw new NoSuchElementException("there is no following interval");
        }
        c.moveBehind(node);
        return node.id;
    }

    public int removeCurrent(int cursor) throws IllegalArgumentException, IllegalStateException {
        Cursor c = openCursor(cursor);
        Node node = c.moved ? tree.find(c.id) : null;
        if (node == null || node.removed) {
            throw new IllegalStateException("the cursor has no live interval");
        }
        tree.markRemoved(node);
        return tree.live;
    }

    // ---- copies ----

    public int save() {
        saved = tree.copy();
        return tree.live;
    }

    public int load() throws IllegalStateException {
        if (saved == null) {
            throw new IllegalStateException("there is no copy");
        }
        tree = saved.copy();
        for (Cursor c : cursors) {
            if (c != null) {
                c.open = false;
            }
        }
        return tree.live;
    }

    // ---- arguments ----

    private static void checkRange(int from, int to) {
        if (from > to) {
            throw new IllegalArgumentException("from is greater than to");
        }
    }

    private void checkFilter(int filter) {
        if (filter < 0 || filter >= filterCount) {
            throw new IllegalArgumentException("the filter does not exist");
        }
    }

    private void checkFilterRoom() {
        if (filterCount >= FILTER_LIMIT) {
            throw new IllegalStateException("there are too many filters");
        }
    }

    private Node presentNode(int id) {
        Node node = tree.find(id);
        if (node == null) {
            throw new NoSuchElementException("no interval with this id is in the tree");
        }
        return node;
    }

    private Node liveNode(int id) {
        Node node = tree.find(id);
        if (node == null || node.removed) {
            throw new NoSuchElementException("there is no live interval with this id");
        }
        return node;
    }

    private Cursor existingCursor(int cursor) {
        Cursor c = cursor >= 0 && cursor < cursors.length ? cursors[cursor] : null;
        if (c == null) {
            throw new IllegalArgumentException("the cursor does not exist");
        }
        return c;
    }

    private Cursor openCursor(int cursor) {
        Cursor c = existingCursor(cursor);
        if (!c.open) {
            throw new IllegalStateException("the cursor is closed");
        }
        return c;
    }

    private static int idOf(Node node) {
        return node == null ? NONE : node.id;
    }

    // ---- parts of the answers ----

    private static int greatestInSubtree(Node node, int property) {
        Node end = node.rightmost().after;
        boolean found = false;
        int greatest = Integer.MIN_VALUE;
        for (Node n = node.leftmost(); n != null && n != end; n = n.after) {
            if (!n.removed) {
                found = true;
                greatest = Math.max(greatest, n.valueOf(property));
            }
        }
        if (!found) {
            throw new IllegalStateException("there is no live interval in the subtree");
        }
        return greatest;
    }

    private static int[] makeDigestTable() {
        int[] table = new int[256];
        for (int i = 0; i < table.length; i++) {
            int x = i;
            for (int step = 0; step < 8; step++) {
                x = (x & 1) == 1 ? (x >>> 1) ^ 0xEDB88320 : x >>> 1;
            }
            table[i] = x;
        }
        return table;
    }

    private int digestOf(Node node, int before, int depth) {
        if (node == null || depth > DEPTH_LIMIT) {
            return before;
        }
        int d = absorb(before, node.id & 255);
        d = absorb(d, node.id >> 8);
        d = absorb(d, node.red ? 1 : 0);
        d = absorb(d, node.removed ? 1 : 0);
        d = digestOf(node.left, d, depth + 1);
        return digestOf(node.right, d, depth + 1);
    }

    private int absorb(int d, int b) {
        return (d >>> 8) ^ digestTable[(d ^ b) & 255];
    }

    private int ranked(int from, int to, int k) {
        if (k >= tree.live) {
            return NONE;
        }
        Node chosen = heaviestBehind(null, from, to);
        for (int i = 0; i < k && chosen != null; i++) {
            chosen = heaviestBehind(chosen, from, to);
        }
        return idOf(chosen);
    }

    /** The first of the ranking if previous is null, otherwise the one directly behind previous, or null. */
    private Node heaviestBehind(Node previous, int from, int to) {
        Node best = null;
        for (Node n = tree.firstLive(); n != null && n.low <= to; n = n.liveAfter()) {
            boolean candidate = n.high >= from && (previous == null || previous.outranks(n));
            if (candidate && (best == null || n.outranks(best))) {
                best = n;
            }
        }
        return best;
    }

    /** Notes at each node the greatest sum of a schedule of live intervals from this node of the chain on. */
    private void planSchedule() {
        for (Node n = tree.last; n != null; n = n.before) {
            n.best = bestFrom(n.after);
            if (!n.removed) {
                n.best = Math.max(n.best, n.weight + bestFrom(n.firstBeyond()));
            }
        }
    }

    private static int bestFrom(Node node) {
        return node == null ? 0 : node.best;
    }

    // ---- parts of filters and cursors ----

    private static Step plainStep(int kind) {
        return new Step(kind, 0, 0, 0);
    }

    private static Step referenceStep(int filter) {
        return new Step(STEP_REFERENCE, filter, 0, 0);
    }

    private static Step rangeStep(int property, int from, int to) {
        return new Step(STEP_RANGE, property, from, to);
    }

    private static Filter rangeFilter(int property, int from, int to) {
        Filter filter = new Filter();
        filter.append(rangeStep(property, from, to));
        return filter;
    }

    private static Filter overlappingFilter() {
        Filter filter = new Filter();
        filter.append(plainStep(STEP_OVERLAPPING));
        return filter;
    }

    private int addFilter(Filter filter) {
        int number = filterCount;
        if (number < 0 || number >= filters.length) {
            return NONE;
        }
        filter.needs = 1 << number;
        for (Step s = filter.first; s != null; s = s.next) {
            if (s.kind == STEP_REFERENCE) {
                filter.needs |= needsOf(s.operand);
            }
        }
        filters[number] = filter;
        filterCount++;
        return number;
    }

    private int needsOf(int number) {
        if (number < 0 || number >= filterCount || number >= filters.length) {
            return 0;
        }
        Filter filter = filters[number];
        return filter == null ? 0 : filter.needs;
    }

    /**
     * Filters refer to earlier ones only, so going up through the numbers decides each one that is needed once,
     * without recursion; the answers are collected as a bit for each filter.
     */
    private boolean matches(int filter, Node node) {
        int needs = needsOf(filter);
        int answers = 0;
        for (int i = 0; i <= filter && i < filters.length; i++) {
            if ((needs >> i & 1) == 1 && decide(filters[i], node, answers)) {
                answers |= 1 << i;
            }
        }
        return (answers >> filter & 1) == 1;
    }

    private boolean decide(Filter filter, Node node, int answers) {
        if (filter == null) {
            return false;
        }
        int stack = 0;
        for (Step s = filter.first; s != null; s = s.next) {
            stack = perform(s, stack, node, answers);
        }
        return (stack & 1) == 1;
    }

    /** The stack holds a truth value in each bit, the top in bit 0; a text of 60 bytes needs less than 32 of them. */
    private int perform(Step step, int stack, Node node, int answers) {
        switch (step.kind) {
            case STEP_RANGE:
                int value = node.valueOf(step.operand);
                return push(stack, value >= step.from && value <= step.to);
            case STEP_OVERLAPPING:
                return push(stack, overlapsAnother(node));
            case STEP_REFERENCE:
                return push(stack, (answers >> step.operand & 1) == 1);
            case STEP_NOT:
                return stack ^ 1;
            case STEP_AND:
                return (stack & 1) == 1 ? stack >>> 1 : stack >>> 1 & ~1;
            case STEP_OR:
                return (stack & 1) == 1 ? stack >>> 1 | 1 : stack >>> 1;
            default:
                return stack;
        }
    }

    private static int push(int stack, boolean value) {
        return stack << 1 | (value ? 1 : 0);
    }

    private boolean overlapsAnother(Node node) {
        for (Node n = tree.first; n != null && n.low <= node.high; n = n.after) {
            if (!n.removed && n != node && n.high >= node.low) {
                return true;
            }
        }
        return false;
    }

    private Node following(Cursor cursor) {
        for (Node n = tree.firstLive(); n != null; n = n.liveAfter()) {
            if (cursor.isBefore(n) && matches(cursor.filter, n)) {
                return n;
            }
        }
        return null;
    }

    /** The node of an interval. All nodes of a tree also form a chain in ascending order of their keys. */
    private static final class Node {
        final int id;
        final int low;
        final int high;
        int weight;
        boolean removed;
        boolean red;
        Node parent;
        Node left;
        Node right;
        Node before;
        Node after;
        // Valid only while a schedule is being determined, which plans it anew.
        int best;

        Node(int id, int low, int high, int weight) {
            this.id = id;
            this.low = low;
            this.high = high;
            this.weight = weight;
            this.removed = false;
            this.red = true;
            this.parent = null;
            this.left = null;
            this.right = null;
            this.before = null;
            this.after = null;
            this.best = 0;
        }

        boolean isLessThan(Node other) {
            return other.isBehind(low, high, id);
        }

        boolean isBehind(int otherLow, int otherHigh, int otherId) {
            if (low != otherLow) {
                return low > otherLow;
            }
            if (high != otherHigh) {
                return high > otherHigh;
            }
            return id > otherId;
        }

        boolean outranks(Node other) {
            return weight > other.weight || weight == other.weight && id < other.id;
        }

        int distanceTo(int point) {
            if (point < low) {
                return low - point;
            }
            return point > high ? point - high : 0;
        }

        int valueOf(int property) {
            switch (property) {
                case LOW:
                    return low;
                case HIGH:
                    return high;
                case WEIGHT:
                    return weight;
                default:
                    return high - low;
            }
        }

        /** The number of nodes on the way from the root to this one, both included. */
        int level() {
            int count = 0;
            for (Node n = this; n != null; n = n.parent) {
                count++;
            }
            return count;
        }

        Node leftmost() {
            Node end = this;
            for (Node n = this; n != null; n = n.left) {
                end = n;
            }
            return end;
        }

        Node rightmost() {
            Node end = this;
            for (Node n = this; n != null; n = n.right) {
                end = n;
            }
            return end;
        }

        Node liveAfter() {
            Node n = after;
            while (n != null && n.removed) {
                n = n.after;
            }
            return n;
        }

        /** The first node of the chain, live or removed, that begins behind the high end of this one, or null. */
        Node firstBeyond() {
            Node n = after;
            while (n != null && n.low <= high) {
                n = n.after;
            }
            return n;
        }

        void setLeft(Node node) {
            left = node;
            if (node != null) {
                node.parent = this;
            }
        }

        void setRight(Node node) {
            right = node;
            if (node != null) {
                node.parent = this;
            }
        }
    }

    /** All that save copies: the intervals, their tree, the percentage and the totals. */
    private static final class Tree {
        // An interval that is gone has no node, an inserted one has its node at its id.
        private final Node[] byId;
        Node root;
        Node first;
        Node last;
        int inserted;
        int nodes;
        int live;
        int percentage;
        int rebuilds;
        int rebuilt;

        Tree() {
            byId = new Node[INSERTION_LIMIT];
            root = null;
            first = null;
            last = null;
            inserted = 0;
            nodes = 0;
            live = 0;
            percentage = FIRST_PERCENTAGE;
            rebuilds = 0;
            rebuilt = 0;
        }

        boolean wasInserted(int id) {
            return id >= 0 && id < inserted;
        }

        Node find(int id) {
            return wasInserted(id) && id < byId.length ? byId[id] : null;
        }

        Node firstLive() {
            return first == null || !first.removed ? first : first.liveAfter();
        }

        int add(int low, int high, int weight) {
            int id = inserted;
            if (id < 0 || id >= byId.length) {
                return NONE;
            }
            Node node = new Node(id, low, high, weight);
            byId[id] = node;
            inserted++;
            nodes++;
            live++;
            hang(node);
            balance(node);
            return id;
        }

        void markRemoved(Node node) {
            node.removed = true;
            live--;
            if (100 * (nodes - live) > percentage * nodes) {
                renew();
            }
        }

        /** Rebuilds the tree and returns the number of intervals that are gone by this. */
        int renew() {
            int gone = nodes - live;
            unchainRemoved();
            root = build(first, live, 0, redDepth(live));
            if (root != null) {
                root.parent = null;
            }
            nodes = live;
            rebuilds++;
            rebuilt += nodes;
            return gone;
        }

        Tree copy() {
            Tree copy = new Tree();
            copy.inserted = inserted;
            copy.nodes = nodes;
            copy.live = live;
            copy.percentage = percentage;
            copy.rebuilds = rebuilds;
            copy.rebuilt = rebuilt;
            copy.root = copy.takeOver(root, 0);
            return copy;
        }

        private Node takeOver(Node source, int depth) {
            if (source == null || depth > DEPTH_LIMIT) {
                return null;
            }
            Node node = new Node(source.id, source.low, source.high, source.weight);
            node.removed = source.removed;
            node.red = source.red;
            if (node.id >= 0 && node.id < byId.length) {
                byId[node.id] = node;
            }
            // The chain is in order because the left subtree is chained before the node and the right one after it.
            node.setLeft(takeOver(source.left, depth + 1));
            chain(last, node, null);
            node.setRight(takeOver(source.right, depth + 1));
            return node;
        }

        /** Makes a node a leaf at the place that its key requires, and a part of the chain there. */
        private void hang(Node node) {
            Node smaller = null;
            Node greater = null;
            Node above = null;
            Node n = root;
            while (n != null) {
                above = n;
                if (node.isLessThan(n)) {
                    greater = n;
                    n = n.left;
                } else {
                    smaller = n;
                    n = n.right;
                }
            }
            if (above == null) {
                root = node;
            } else if (above == greater) {
                above.setLeft(node);
            } else {
                above.setRight(node);
            }
            chain(smaller, node, greater);
        }

        private void chain(Node smaller, Node node, Node greater) {
            node.before = smaller;
            node.after = greater;
            if (smaller == null) {
                first = node;
            } else {
                smaller.after = node;
            }
            if (greater == null) {
                last = node;
            } else {
                greater.before = node;
            }
        }

        private void balance(Node added) {
            Node n = added;
            for (int i = 0; i < DEPTH_LIMIT; i++) {
                Node p = n.parent;
                Node g = p == null ? null : p.parent;
                if (p == null || g == null || !p.red) {
                    break;
                }
                Node other = g.left == p ? g.right : g.left;
                if (other == null || !other.red) {
                    turn(n, p, g);
                    break;
                }
                p.red = false;
                other.red = false;
                g.red = true;
                n = g;
            }
            if (root != null) {
                root.red = false;
            }
        }

        private void turn(Node n, Node p, Node g) {
            boolean sameSide = (p.left == n) == (g.left == p);
            Node top = sameSide ? p : n;
            if (!sameSide) {
                lift(n);
            }
            top.red = false;
            g.red = true;
            lift(top);
        }

        /** Rotates the tree so that a node takes the place of its parent, which becomes its child. */
        private void lift(Node node) {
            Node p = node.parent;
            if (p == null) {
                return;
            }
            Node g = p.parent;
            if (p.left == node) {
                p.setLeft(node.right);
                node.setRight(p);
            } else {
                p.setRight(node.left);
                node.setLeft(p);
            }
            node.parent = g;
            if (g == null) {
                root = node;
            } else if (g.left == p) {
                g.left = node;
            } else {
                g.right = node;
            }
        }

        private void unchainRemoved() {
            Node n = first;
            first = null;
            last = null;
            while (n != null) {
                Node following = n.after;
                if (!n.removed) {
                    chain(last, n, null);
                } else if (n.id >= 0 && n.id < byId.length) {
                    byId[n.id] = null;
                }
                n = following;
            }
        }

        /** The depth of the nodes that become red, or NONE if the deepest level is full. */
        private static int redDepth(int count) {
            int depth = 0;
            int full = 1;
            while (full < count && depth < DEPTH_LIMIT) {
                full = 2 * full + 1;
                depth++;
            }
            return full == count ? NONE : depth;
        }

        /**
         * Builds the tree of so many nodes of the chain. Its root, the element (a + b) / 2 of a to b, comes after
         * (b - a) / 2 others, both rounded down.
         */
        private static Node build(Node start, int count, int depth, int redDepth) {
            if (count <= 0 || depth > DEPTH_LIMIT) {
                return null;
            }
            int smaller = count / 2;
            Node middle = start;
            for (int i = 0; i < smaller && middle != null; i++) {
                middle = middle.after;
            }
            if (middle == null) {
                return null;
            }
            middle.red = depth == redDepth;
            middle.setLeft(build(start, smaller, depth + 1, redDepth));
            middle.setRight(build(middle.after, count - smaller - 1, depth + 1, redDepth));
            return middle;
        }
    }

    /** A filter: steps that leave its answer on a stack of truth values. */
    private static final class Filter {
        Step first;
        private Step last;
        // A bit for each filter whose answer is needed, this one included.
        int needs;

        Filter() {
            first = null;
            last = null;
            needs = 0;
        }

        void append(Step step) {
            step.next = null;
            if (last == null) {
                first = step;
            } else {
                last.next = step;
            }
            last = step;
        }
    }

    /** A step of a filter, or an operator that waits for its operands while a text is read. */
    private static final class Step {
        final int kind;
        // The property of a range, or the number of the filter that is referred to.
        final int operand;
        final int from;
        final int to;
        Step next;

        Step(int kind, int operand, int from, int to) {
            this.kind = kind;
            this.operand = operand;
            this.from = from;
            this.to = to;
            this.next = null;
        }
    }

    private static final class Cursor {
        boolean open;
        int filter;
        // The position is before all intervals until the cursor has moved, then behind the key that follows here.
        boolean moved;
        private int low;
        private int high;
        int id;

        Cursor() {
            open = false;
            filter = 0;
            moved = false;
            low = 0;
            high = 0;
            id = NONE;
        }

        void start(int newFilter) {
            open = true;
            filter = newFilter;
            moved = false;
        }

        void moveBehind(Node node) {
            moved = true;
            low = node.low;
            high = node.high;
            id = node.id;
        }

        boolean isBefore(Node node) {
            return !moved || node.isBehind(low, high, id);
        }
    }

    /**
     * Reads a filter text from left to right, with a stack of waiting operators instead of recursion. It stops at the
     * first byte that cannot continue a correct text, and its position is then the error position.
     */
    private static final class TextReader {
        private final int[] text;
        private final int length;
        private final int filterCount;
        final Filter filter;
        int position;
        private boolean factorDue;
        private int openCount;
        private int references;
        private Step waiting;

        TextReader(int[] text, int length, int filterCount) {
            this.text = text;
            this.length = Math.min(length, text.length);
            this.filterCount = filterCount;
            this.filter = new Filter();
            this.position = 0;
            this.factorDue = true;
            this.openCount = 0;
            this.references = 0;
            this.waiting = null;
        }

        boolean readAll() {
            for (int i = 0; i < length && position < length; i++) {
                boolean correct = factorDue ? readFactor() : readOperator();
                if (!correct) {
                    return false;
                }
            }
            if (factorDue || openCount > 0) {
                return false;
            }
            release(STEP_OR);
            return true;
        }

        /** The byte at the position, or NONE at the end of the text. */
        private int peek() {
            return position >= 0 && position < length ? text[position] : NONE;
        }

        private boolean readFactor() {
            int letter = peek();
            if (letter == '!') {
                position++;
                await(STEP_NOT);
                return true;
            }
            if (letter == '(') {
                position++;
                openCount++;
                await(STEP_OPEN);
                return true;
            }
            return letter == '#' ? readReference() : readComparison();
        }

        private boolean readReference() {
            if (references >= REFERENCE_LIMIT) {
                return false;
            }
            position++;
            int number = peek() - '0';
            if (number < 0 || number >= filterCount) {
                return false;
            }
            position++;
            references++;
            filter.append(referenceStep(number));
            factorDue = false;
            return true;
        }

        private boolean readComparison() {
            int property = propertyOf(peek());
            if (property == NONE) {
                return false;
            }
            position++;
            int comparison = peek();
            if (comparison != '<' && comparison != '=' && comparison != '>') {
                return false;
            }
            position++;
            boolean negative = peek() == '-';
            if (negative) {
                position++;
            }
            if (!isDigit(peek())) {
                return false;
            }
            int digits = readDigits();
            int number = negative ? -digits : digits;
            int from = comparison == '<' ? Integer.MIN_VALUE : comparison == '=' ? number : number + 1;
            int to = comparison == '<' ? number - 1 : comparison == '=' ? number : Integer.MAX_VALUE;
            filter.append(rangeStep(property, from, to));
            factorDue = false;
            return true;
        }

        private int readDigits() {
            int number = 0;
            for (int i = 0; i < DIGIT_LIMIT && isDigit(peek()); i++) {
                number = 10 * number + peek() - '0';
                position++;
            }
            return number;
        }

        private boolean readOperator() {
            int letter = peek();
            if (letter == '|' || letter == '&') {
                position++;
                int kind = letter == '|' ? STEP_OR : STEP_AND;
                release(kind);
                await(kind);
                factorDue = true;
                return true;
            }
            if (letter != ')' || openCount <= 0) {
                return false;
            }
            position++;
            openCount--;
            release(STEP_OR);
            // What stops the release is the opening bracket, which has done its work.
            if (waiting != null) {
                waiting = waiting.next;
            }
            return true;
        }

        private void await(int kind) {
            Step step = plainStep(kind);
            step.next = waiting;
            waiting = step;
        }

        /** Appends the waiting operators that bind at least as tightly as one of a kind: not, then and, then or. */
        private void release(int kind) {
            while (waiting != null && waiting.kind <= kind) {
                Step step = waiting;
                waiting = step.next;
                filter.append(step);
            }
        }

        private static boolean isDigit(int letter) {
            return letter >= '0' && letter <= '9';
        }

        private static int propertyOf(int letter) {
            switch (letter) {
                case 'l':
                    return LOW;
                case 'h':
                    return HIGH;
                case 'w':
                    return WEIGHT;
                case 'n':
                    return LENGTH;
                default:
                    return NONE;
            }
        }
    }
}
