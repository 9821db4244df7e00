import java.util.Arrays;

/** An R-tree of at most 24 boxes, with a history, a snapshot and a text of rectangles. */
public final class RectangleTree {
    public static final int NO_SUCH = -1;
    public static final int BAD_VALUE = -2;
    public static final int TOO_MANY = -3;
    public static final int NOT_POSSIBLE = -4;
    public static final int NONE = -5;
    public static final int CAPACITY = 0, REINSERT = 1;

    private static final int GREATEST_COORDINATE = 99;
    private static final int SIDES = 4;
    private static final int MOST_BOXES = 24;
    private static final int LEAST_CAPACITY = 3;
    private static final int MOST_CAPACITY = 5;
    private static final int FIRST_CAPACITY = 4;
    private static final int FAULT_BASE = -100;

    /** No item, or an index outside its row. */
    private static final int NOTHING = -1;
    /** The level of a box is the one below the leaves, so every item is inserted at its level + 1. */
    private static final int BOX_LEVEL = -1;
    /** The level of an item that is not in use. */
    private static final int FREE = -2;
    /** The items from 0 on are the boxes, those from here on are nodes. */
    private static final int FIRST_NODE = MOST_BOXES;
    /** A list has one place more than the capacity, because a node overflows with its new entry in it. */
    private static final int MOST_ENTRIES = MOST_CAPACITY + 1;
    /**
     * A node is split with four entries or more, and each other node of its level has one or more: so behind a split a
     * level has two nodes fewer than there are items one level lower. That is 22 leaves at most, then 20, 18, .., 2
     * nodes, and the root at the level 11.
     */
    private static final int MOST_NODES = 133;
    private static final int ITEMS = FIRST_NODE + MOST_NODES;
    /** The bound of loops whose end the document does not tell in numbers. */
    private static final int MANY = 1_000_000;

    private final Tree tree;
    private final Changes changes;
    private final Packing packing;
    private final Walk numbering;
    private final RectangleText text;
    private final History history;
    private final Tree snapshot;
    private boolean hasSnapshot;

    public RectangleTree() {
        tree = new Tree();
        changes = new Changes(tree);
        packing = new Packing(tree);
        numbering = new Walk();
        text = new RectangleText();
        history = new History();
        snapshot = new Tree();
        hasSnapshot = false;
        numberNodes();
    }

    // ---- actions on the tree

    public int insert(int x1, int y1, int x2, int y2) {
        if (!isRectangle(x1, y1, x2, y2)) {
            return BAD_VALUE;
        }
        if (tree.countBoxes() >= MOST_BOXES) {
            return TOO_MANY;
        }
        history.record(tree);
        int box = tree.newBox(x1, y1, x2, y2);
        changes.insertOwn(box);
        numberNodes();
        return box;
    }

    public int remove(int box) {
        if (!tree.hasBox(box)) {
            return NO_SUCH;
        }
        history.record(tree);
        changes.takeOutBox(box);
        changes.putBackKept();
        numberNodes();
        return tree.countBoxes();
    }

    public int pack() {
        history.record(tree);
        packing.rebuild();
        numberNodes();
        return numbering.count;
    }

    public int setSetting(int setting, int value) {
        int previous = setting(setting);
        if (previous == NO_SUCH) {
            return NO_SUCH;
        }
        int least = setting == CAPACITY ? LEAST_CAPACITY : 0;
        int most = setting == CAPACITY ? MOST_CAPACITY : 1;
        if (value < least || value > most) {
            return BAD_VALUE;
        }
        history.record(tree);
        if (setting == CAPACITY) {
            tree.capacity = value;
        } else {
            tree.reinsert = value;
        }
        return previous;
    }

    // ---- text

    public int append(int character) {
        if (character < 32 || character > 126) {
            return BAD_VALUE;
        }
        if (text.isFull()) {
            return TOO_MANY;
        }
        return text.addLast(character);
    }

    public int clearText() {
        return text.makeEmpty();
    }

    public int fault() {
        return text.findFault();
    }

    public int read() {
        int fault = text.findFault();
        if (fault != NONE) {
            return FAULT_BASE - fault;
        }
        int count = text.rectangles;
        if (tree.countBoxes() + count > MOST_BOXES) {
            return TOO_MANY;
        }
        history.record(tree);
        for (int i = 0; i < count; i++) {
            int box = tree.newBox(text.partOf(i, 0), text.partOf(i, 1), text.partOf(i, 2), text.partOf(i, 3));
            changes.insertOwn(box);
        }
        numberNodes();
        return count;
    }

    // ---- history and snapshot

    public int undo() {
        if (history.count == 0) {
            return NONE;
        }
        history.takeBack(tree);
        numberNodes();
        return history.count;
    }

    public int save() {
        snapshot.copyFrom(tree);
        hasSnapshot = true;
        return tree.countBoxes();
    }

    public int restore() {
        if (!hasSnapshot) {
            return NOT_POSSIBLE;
        }
        history.record(tree);
        tree.copyFrom(snapshot);
        numberNodes();
        return tree.countBoxes();
    }

    // ---- queries about boxes and nodes; they change nothing

    public int boxes() {
        int mask = 0;
        for (int box = 0; box < MOST_BOXES; box++) {
            if (tree.hasBox(box)) {
                mask |= 1 << box;
            }
        }
        return mask;
    }

    public int side(int box, int side) {
        if (!tree.hasBox(box)) {
            return NO_SUCH;
        }
        if (side < 0 || side >= SIDES) {
            return BAD_VALUE;
        }
        return tree.corner(box, side);
    }

    public int nodes() {
        return numbering.count;
    }

    public int height() {
        return tree.levelOf(tree.root);
    }

    public int level(int node) {
        return hasNode(node) ? tree.levelOf(nodeAt(node)) : NO_SUCH;
    }

    public int entries(int node) {
        return hasNode(node) ? tree.sizeOf(nodeAt(node)) : NO_SUCH;
    }

    public int entry(int node, int place) {
        if (!hasNode(node)) {
            return NO_SUCH;
        }
        int item = nodeAt(node);
        if (place < 0 || place >= tree.sizeOf(item)) {
            return NO_SUCH;
        }
        int found = tree.entryAt(item, place);
        return found < FIRST_NODE ? found : numbering.placeOf(found);
    }

    public int bound(int node, int side) {
        if (!hasNode(node)) {
            return NO_SUCH;
        }
        if (side < 0 || side >= SIDES) {
            return BAD_VALUE;
        }
        int item = nodeAt(node);
        return tree.sizeOf(item) == 0 ? NONE : tree.corner(item, side);
    }

    public int leafOf(int box) {
        return tree.hasBox(box) ? numbering.placeOf(tree.holderOf(box)) : NO_SUCH;
    }

    public int setting(int setting) {
        if (setting == CAPACITY) {
            return tree.capacity;
        }
        return setting == REINSERT ? tree.reinsert : NO_SUCH;
    }

    public int splits() {
        return tree.splitCount;
    }

    public int reinsertions() {
        return tree.reinsertionCount;
    }

    // ---- queries with windows and points

    public int meeting(int x1, int y1, int x2, int y2) {
        if (!isRectangle(x1, y1, x2, y2)) {
            return BAD_VALUE;
        }
        int count = 0;
        for (int box = 0; box < MOST_BOXES; box++) {
            if (tree.hasBox(box) && tree.meetsWindow(box, x1, y1, x2, y2)) {
                count++;
            }
        }
        return count;
    }

    public int inside(int x1, int y1, int x2, int y2) {
        if (!isRectangle(x1, y1, x2, y2)) {
            return BAD_VALUE;
        }
        int mask = 0;
        for (int box = 0; box < MOST_BOXES; box++) {
            if (tree.hasBox(box) && tree.liesInWindow(box, x1, y1, x2, y2)) {
                mask |= 1 << box;
            }
        }
        return mask;
    }

    public int visits(int x1, int y1, int x2, int y2) {
        if (!isRectangle(x1, y1, x2, y2)) {
            return BAD_VALUE;
        }
        // A bound that meets the window lies in the bounds of all nodes above it, which so are visited too.
        int count = 1;
        for (int number = 1; number < numbering.count; number++) {
            if (tree.meetsWindow(nodeAt(number), x1, y1, x2, y2)) {
                count++;
            }
        }
        return count;
    }

    public int nearest(int x, int y) {
        if (!isRectangle(x, y, x, y)) {
            return BAD_VALUE;
        }
        int best = NONE;
        int least = 0;
        for (int box = 0; box < MOST_BOXES; box++) {
            if (!tree.hasBox(box)) {
                continue;
            }
            int distance = tree.squareDistance(box, x, y);
            if (best == NONE || distance < least) {
                best = box;
                least = distance;
            }
        }
        return best;
    }

    // ---- measures of the tree

    public int area(int level) {
        if (level < 0 || level > height()) {
            return NO_SUCH;
        }
        int sum = 0;
        for (int number = 0; number < numbering.count; number++) {
            int node = nodeAt(number);
            if (tree.levelOf(node) == level && tree.sizeOf(node) > 0) {
                sum += tree.areaOf(node);
            }
        }
        return sum;
    }

    public int overlap(int level) {
        if (level < 0 || level > height()) {
            return NO_SUCH;
        }
        int sum = 0;
        for (int second = 1; second < numbering.count; second++) {
            if (tree.levelOf(nodeAt(second)) == level) {
                sum += overlapWithEarlier(second, level);
            }
        }
        return sum;
    }

    public float fill() {
        int sum = 0;
        for (int number = 0; number < numbering.count; number++) {
            sum += tree.sizeOf(nodeAt(number));
        }
        int places = numbering.count * tree.capacity;
        return places > 0 ? (float) sum / places : 0f;
    }

    // ---- helpers of the face

    private int overlapWithEarlier(int second, int level) {
        int sum = 0;
        for (int first = 0; first < second; first++) {
            if (tree.levelOf(nodeAt(first)) == level) {
                sum += tree.commonArea(nodeAt(first), nodeAt(second));
            }
        }
        return sum;
    }

    private void numberNodes() {
        numbering.gather(tree, tree.root, true);
    }

    private boolean hasNode(int number) {
        return number >= 0 && number < numbering.count;
    }

    private int nodeAt(int number) {
        return at(numbering.items, number);
    }

    private static boolean isRectangle(int x1, int y1, int x2, int y2) {
        return isSpan(x1, x2) && isSpan(y1, y2);
    }

    private static boolean isSpan(int from, int to) {
        return from >= 0 && from <= to && to <= GREATEST_COORDINATE;
    }

    private static int at(int[] row, int index) {
        return index >= 0 && index < row.length ? row[index] : NOTHING;
    }

    private static void put(int[] row, int index, int value) {
        if (index >= 0 && index < row.length) {
            row[index] = value;
        }
    }

    /**
     * The state: boxes and nodes are items of the same rows, so that both can be entries in the same way.
     * A row has one, four (corners) or six (lists) places for each item.
     */
    private static final class Tree {
        private final int[] levels = new int[ITEMS];
        private final int[] holders = new int[ITEMS];
        private final int[] sizes = new int[ITEMS];
        private final int[] corners = new int[ITEMS * SIDES];
        private final int[] lists = new int[ITEMS * MOST_ENTRIES];
        int root = FIRST_NODE;
        int capacity = FIRST_CAPACITY;
        int reinsert = 1;
        int splitCount = 0;
        int reinsertionCount = 0;

        Tree() {
            Arrays.fill(levels, FREE);
            put(levels, root, 0);
            put(holders, root, NOTHING);
        }

        void copyFrom(Tree other) {
            copyRow(other.levels, levels);
            copyRow(other.holders, holders);
            copyRow(other.sizes, sizes);
            copyRow(other.corners, corners);
            copyRow(other.lists, lists);
            root = other.root;
            capacity = other.capacity;
            reinsert = other.reinsert;
            splitCount = other.splitCount;
            reinsertionCount = other.reinsertionCount;
        }

        private static void copyRow(int[] from, int[] to) {
            System.arraycopy(from, 0, to, 0, Math.min(from.length, to.length));
        }

        int levelOf(int item) {
            return item >= 0 && item < levels.length ? levels[item] : FREE;
        }

        int holderOf(int item) {
            return at(holders, item);
        }

        int sizeOf(int item) {
            return item >= 0 && item < sizes.length ? sizes[item] : 0;
        }

        int entryAt(int node, int place) {
            return place >= 0 && place < sizeOf(node) ? at(lists, node * MOST_ENTRIES + place) : NOTHING;
        }

        int corner(int item, int side) {
            int index = item * SIDES + side;
            return index >= 0 && index < corners.length ? corners[index] : NOTHING;
        }

        int least() {
            return capacity / 2;
        }

        boolean isNode(int item) {
            return item >= FIRST_NODE && item < levels.length && levels[item] >= 0;
        }

        boolean hasBox(int number) {
            return number >= 0 && number < MOST_BOXES && levelOf(number) == BOX_LEVEL;
        }

        int countBoxes() {
            int count = 0;
            for (int box = 0; box < MOST_BOXES; box++) {
                if (hasBox(box)) {
                    count++;
                }
            }
            return count;
        }

        /** Makes a box with the least free number, in no leaf yet. */
        int newBox(int x1, int y1, int x2, int y2) {
            int box = firstFree(0, MOST_BOXES);
            if (box != NOTHING) {
                take(box, BOX_LEVEL);
                setCorners(box, x1, y1, x2, y2);
            }
            return box;
        }

        /** Makes a node without entries, in no list yet. */
        int newNode(int level) {
            int node = firstFree(FIRST_NODE, ITEMS);
            if (node != NOTHING) {
                take(node, level);
            }
            return node;
        }

        private int firstFree(int from, int to) {
            for (int item = from; item < to; item++) {
                if (levelOf(item) == FREE) {
                    return item;
                }
            }
            return NOTHING;
        }

        private void take(int item, int level) {
            put(levels, item, level);
            put(sizes, item, 0);
            put(holders, item, NOTHING);
        }

        void release(int item) {
            take(item, FREE);
        }

        /** Takes an item that has left its list, or whose list is gone, for one without a holder. */
        void setLoose(int item) {
            put(holders, item, NOTHING);
        }

        void makeListEmpty(int node) {
            put(sizes, node, 0);
        }

        void releaseNodes() {
            for (int item = FIRST_NODE; item < ITEMS; item++) {
                release(item);
            }
        }

        void addBehind(int node, int neighbour, int item) {
            addAt(node, placeOf(node, neighbour) + 1, item);
        }

        void addAt(int node, int place, int item) {
            int size = sizeOf(node);
            if (size >= MOST_ENTRIES || place < 0 || place > size) {
                return;
            }
            int start = node * MOST_ENTRIES;
            for (int i = size; i > place; i--) {
                put(lists, start + i, at(lists, start + i - 1));
            }
            put(lists, start + place, item);
            put(sizes, node, size + 1);
            put(holders, item, node);
            refreshUp(node);
        }

        private int placeOf(int node, int item) {
            int size = sizeOf(node);
            for (int place = 0; place < size; place++) {
                if (entryAt(node, place) == item) {
                    return place;
                }
            }
            return NOTHING;
        }

        /** Takes an item out of the list in which it is. */
        void takeOut(int item) {
            int node = holderOf(item);
            int place = placeOf(node, item);
            if (place == NOTHING) {
                return;
            }
            int start = node * MOST_ENTRIES;
            int size = sizeOf(node) - 1;
            for (int i = place; i < size; i++) {
                put(lists, start + i, at(lists, start + i + 1));
            }
            put(sizes, node, size);
            put(holders, item, NOTHING);
            refreshUp(node);
        }

        /** Brings the bounds of a node and of all nodes above it up to date. */
        private void refreshUp(int node) {
            int up = node;
            for (int steps = 0; isNode(up) && steps < MANY; steps++) {
                int x1 = GREATEST_COORDINATE;
                int y1 = GREATEST_COORDINATE;
                int x2 = 0;
                int y2 = 0;
                int size = sizeOf(up);
                for (int place = 0; place < size; place++) {
                    int item = at(lists, up * MOST_ENTRIES + place);
                    x1 = Math.min(x1, corner(item, 0));
                    y1 = Math.min(y1, corner(item, 1));
                    x2 = Math.max(x2, corner(item, 2));
                    y2 = Math.max(y2, corner(item, 3));
                }
                setCorners(up, x1, y1, x2, y2);
                up = at(holders, up);
            }
        }

        private void setCorners(int item, int x1, int y1, int x2, int y2) {
            int start = item * SIDES;
            if (start >= 0 && start <= corners.length - SIDES) {
                corners[start] = x1;
                corners[start + 1] = y1;
                corners[start + 2] = x2;
                corners[start + 3] = y2;
            }
        }

        /** Puts a new root above the old one, which becomes its only entry. */
        int raiseRoot() {
            int old = root;
            int above = newNode(levelOf(old) + 1);
            if (above != NOTHING) {
                root = above;
                addAt(above, 0, old);
            }
            return above;
        }

        /** Gives up roots that have just one entry. */
        void lowerRoot() {
            for (int steps = 0; levelOf(root) > 0 && sizeOf(root) == 1 && steps < MANY; steps++) {
                int below = entryAt(root, 0);
                release(root);
                setLoose(below);
                root = below;
            }
            if (levelOf(root) > 0 && sizeOf(root) == 0) {
                put(levels, root, 0);
            }
        }

        int areaOf(int item) {
            return (corner(item, 2) - corner(item, 0) + 1) * (corner(item, 3) - corner(item, 1) + 1);
        }

        int unionArea(int a, int b) {
            int width = Math.max(corner(a, 2), corner(b, 2)) - Math.min(corner(a, 0), corner(b, 0)) + 1;
            int depth = Math.max(corner(a, 3), corner(b, 3)) - Math.min(corner(a, 1), corner(b, 1)) + 1;
            return width * depth;
        }

        int commonArea(int a, int b) {
            int width = Math.min(corner(a, 2), corner(b, 2)) - Math.max(corner(a, 0), corner(b, 0)) + 1;
            int depth = Math.min(corner(a, 3), corner(b, 3)) - Math.max(corner(a, 1), corner(b, 1)) + 1;
            return width > 0 && depth > 0 ? width * depth : 0;
        }

        int enlargement(int a, int b) {
            return unionArea(a, b) - areaOf(a);
        }

        /** The center of an item in one direction, doubled: 0 for x, 1 for y. */
        int doubleCenter(int item, int direction) {
            return corner(item, direction) + corner(item, direction + 2);
        }

        int centerDistance(int a, int b) {
            int dx = doubleCenter(a, 0) - doubleCenter(b, 0);
            int dy = doubleCenter(a, 1) - doubleCenter(b, 1);
            return dx * dx + dy * dy;
        }

        boolean meetsWindow(int item, int x1, int y1, int x2, int y2) {
            return corner(item, 0) <= x2 && corner(item, 2) >= x1 && corner(item, 1) <= y2 && corner(item, 3) >= y1;
        }

        boolean liesInWindow(int item, int x1, int y1, int x2, int y2) {
            return corner(item, 0) >= x1 && corner(item, 2) <= x2 && corner(item, 1) >= y1 && corner(item, 3) <= y2;
        }

        int squareDistance(int item, int x, int y) {
            int dx = Math.max(0, Math.max(corner(item, 0) - x, x - corner(item, 2)));
            int dy = Math.max(0, Math.max(corner(item, 1) - y, y - corner(item, 3)));
            return dx * dx + dy * dy;
        }
    }

    /** The nodes, or the boxes, at and below one item, in preorder. */
    private static final class Walk {
        final int[] items = new int[ITEMS];
        int count = 0;
        private final int[] pending = new int[ITEMS];

        void gather(Tree tree, int top, boolean nodes) {
            count = 0;
            put(pending, 0, top);
            int waiting = 1;
            for (int steps = 0; waiting > 0 && steps < MANY; steps++) {
                waiting--;
                int item = at(pending, waiting);
                if ((item >= FIRST_NODE) == nodes) {
                    put(items, count, item);
                    count++;
                }
                for (int place = tree.sizeOf(item) - 1; place >= 0; place--) {
                    put(pending, waiting, tree.entryAt(item, place));
                    waiting++;
                }
            }
        }

        int placeOf(int item) {
            for (int place = 0; place < count; place++) {
                if (at(items, place) == item) {
                    return place;
                }
            }
            return NOTHING;
        }
    }

    /** Insertion with its reinsertions and splits, and removal. */
    private static final class Changes {
        private final Tree tree;
        private final int[] kept = new int[MOST_BOXES];
        private int keptCount = 0;
        private final int[] pool = new int[MOST_ENTRIES];
        private int left = 0;
        private long treatedLevels = 0;
        private final Walk looseBoxes = new Walk();
        private final Walk looseNodes = new Walk();

        Changes(Tree tree) {
            this.tree = tree;
        }

        void insertOwn(int item) {
            treatedLevels = 0;
            int node = targetFor(item);
            tree.addAt(node, tree.sizeOf(node), item);
            for (int steps = 0; tree.sizeOf(node) > tree.capacity && steps < MANY; steps++) {
                node = mayReinsert(node) ? reinsertFarthest(node) : splitNode(node);
            }
        }

        private int targetFor(int item) {
            int level = tree.levelOf(item) + 1;
            int node = tree.root;
            for (int steps = 0; tree.levelOf(node) > level && steps < MANY; steps++) {
                node = bestEntry(node, item);
            }
            return node;
        }

        private int bestEntry(int node, int item) {
            int best = NOTHING;
            int leastGrowth = 0;
            int leastArea = 0;
            int size = tree.sizeOf(node);
            for (int place = 0; place < size; place++) {
                int candidate = tree.entryAt(node, place);
                int area = tree.areaOf(candidate);
                int growth = tree.unionArea(candidate, item) - area;
                if (best == NOTHING || growth < leastGrowth || growth == leastGrowth && area < leastArea) {
                    best = candidate;
                    leastGrowth = growth;
                    leastArea = area;
                }
            }
            return best;
        }

        private boolean mayReinsert(int node) {
            long mark = 1L << tree.levelOf(node);
            return tree.reinsert == 1 && node != tree.root && (treatedLevels & mark) == 0;
        }

        /** Answers the node that has got the entry. */
        private int reinsertFarthest(int node) {
            treatedLevels |= 1L << tree.levelOf(node);
            tree.reinsertionCount++;
            int far = farthestEntry(node);
            tree.takeOut(far);
            int target = targetFor(far);
            tree.addAt(target, tree.sizeOf(target), far);
            return target;
        }

        private int farthestEntry(int node) {
            int farthest = NOTHING;
            int greatest = 0;
            int size = tree.sizeOf(node);
            for (int place = 0; place < size; place++) {
                int candidate = tree.entryAt(node, place);
                int distance = tree.centerDistance(candidate, node);
                if (distance >= greatest) {
                    farthest = candidate;
                    greatest = distance;
                }
            }
            return farthest;
        }

        /** Answers the parent, which has got the new node. */
        private int splitNode(int node) {
            int parent = node == tree.root ? tree.raiseRoot() : tree.holderOf(node);
            int twin = tree.newNode(tree.levelOf(node));
            if (parent == NOTHING || twin == NOTHING) {
                return NOTHING;
            }
            tree.splitCount++;
            fillPool(node);
            int seeds = findSeeds();
            // The node itself and its twin are the groups: their bounds are the unions that the choices ask for.
            tree.makeListEmpty(node);
            giveTo(twin, seeds % MOST_ENTRIES);
            giveTo(node, seeds / MOST_ENTRIES);
            for (int steps = 0; left > 0 && steps < MOST_ENTRIES; steps++) {
                if (tree.sizeOf(node) + left <= tree.least()) {
                    giveAllTo(node);
                } else if (tree.sizeOf(twin) + left <= tree.least()) {
                    giveAllTo(twin);
                } else {
                    int next = mostDecided(node, twin);
                    giveTo(betterGroup(node, twin, at(pool, next)), next);
                }
            }
            tree.addBehind(parent, node, twin);
            return parent;
        }

        private void fillPool(int node) {
            left = tree.sizeOf(node);
            for (int i = 0; i < left; i++) {
                put(pool, i, tree.entryAt(node, i));
            }
        }

        /** Answers the places of both seeds in the pool, the first one times MOST_ENTRIES plus the second one. */
        private int findSeeds() {
            int best = NOTHING;
            int greatest = 0;
            for (int i = 0; i < left; i++) {
                for (int j = i + 1; j < left; j++) {
                    int a = at(pool, i);
                    int b = at(pool, j);
                    int waste = tree.unionArea(a, b) - tree.areaOf(a) - tree.areaOf(b);
                    if (best == NOTHING || waste > greatest) {
                        best = i * MOST_ENTRIES + j;
                        greatest = waste;
                    }
                }
            }
            return best;
        }

        /** The place in the pool of the entry for which the enlargements of the groups differ most. */
        private int mostDecided(int first, int second) {
            int best = NOTHING;
            int greatest = 0;
            for (int i = 0; i < left; i++) {
                int item = at(pool, i);
                int difference = Math.abs(tree.enlargement(first, item) - tree.enlargement(second, item));
                if (best == NOTHING || difference > greatest) {
                    best = i;
                    greatest = difference;
                }
            }
            return best;
        }

        private int betterGroup(int first, int second, int item) {
            int difference = tree.enlargement(first, item) - tree.enlargement(second, item);
            if (difference == 0) {
                difference = tree.areaOf(first) - tree.areaOf(second);
            }
            if (difference == 0) {
                difference = tree.sizeOf(first) - tree.sizeOf(second);
            }
            return difference <= 0 ? first : second;
        }

        private void giveTo(int group, int place) {
            tree.addAt(group, tree.sizeOf(group), at(pool, place));
            left--;
            for (int i = Math.max(place, 0); i < left; i++) {
                put(pool, i, at(pool, i + 1));
            }
        }

        private void giveAllTo(int group) {
            for (int i = 0; i < left; i++) {
                tree.addAt(group, tree.sizeOf(group), at(pool, i));
            }
            left = 0;
        }

        /** Removes a box and all nodes that have too few entries then, and keeps the entries of these aside. */
        void takeOutBox(int box) {
            int node = tree.holderOf(box);
            tree.takeOut(box);
            tree.release(box);
            keptCount = 0;
            for (int steps = 0; tree.isNode(node) && node != tree.root && steps < MANY; steps++) {
                int above = tree.holderOf(node);
                if (tree.sizeOf(node) < tree.least()) {
                    keepEntriesOf(node);
                }
                node = above;
            }
            tree.lowerRoot();
        }

        private void keepEntriesOf(int node) {
            tree.takeOut(node);
            int size = tree.sizeOf(node);
            for (int place = 0; place < size; place++) {
                int item = tree.entryAt(node, place);
                tree.setLoose(item);
                put(kept, keptCount, item);
                keptCount++;
            }
            tree.release(node);
        }

        void putBackKept() {
            for (int i = 0; i < keptCount; i++) {
                int item = at(kept, i);
                if (tree.levelOf(item) + 1 <= tree.levelOf(tree.root)) {
                    insertOwn(item);
                    continue;
                }
                dissolve(item);
                for (int j = 0; j < looseBoxes.count; j++) {
                    insertOwn(at(looseBoxes.items, j));
                }
            }
        }

        /** Gives up a node with all nodes below it; its boxes are left in looseBoxes. */
        private void dissolve(int node) {
            looseBoxes.gather(tree, node, false);
            looseNodes.gather(tree, node, true);
            for (int i = 0; i < looseBoxes.count; i++) {
                tree.setLoose(at(looseBoxes.items, i));
            }
            for (int i = 0; i < looseNodes.count; i++) {
                tree.release(at(looseNodes.items, i));
            }
        }
    }

    /** Packing by sorted tiles. */
    private static final class Packing {
        private final Tree tree;
        private final int[] row = new int[MOST_BOXES];

        Packing(Tree tree) {
            this.tree = tree;
        }

        void rebuild() {
            int count = listBoxes();
            tree.releaseNodes();
            if (count == 0) {
                tree.root = tree.newNode(0);
                return;
            }
            int slice = leastRoot((count + tree.capacity - 1) / Math.max(tree.capacity, 1)) * tree.capacity;
            sortPart(0, count, 0);
            for (int from = 0; from < count && slice > 0; from += slice) {
                sortPart(from, Math.min(from + slice, count), 1);
            }
            // A slice is a whole number of leaves, so the leaves can be cut from the row as one.
            for (int level = 0; level < MOST_BOXES && (level == 0 || count > 1); level++) {
                count = groupRow(count, level);
            }
            tree.root = at(row, 0);
        }

        private int listBoxes() {
            int count = 0;
            for (int box = 0; box < MOST_BOXES; box++) {
                if (tree.hasBox(box)) {
                    put(row, count, box);
                    count++;
                }
            }
            return count;
        }

        /** The least number whose square is at least the given one. */
        private static int leastRoot(int square) {
            int root = 1;
            while (root * root < square && root < MOST_BOXES) {
                root++;
            }
            return root;
        }

        /** Sorts the boxes from one place to ahead of another by their centers in one direction. */
        private void sortPart(int from, int to, int direction) {
            for (int i = from + 1; i < to; i++) {
                int box = at(row, i);
                int j = i;
                while (j > from && comesAhead(box, at(row, j - 1), direction)) {
                    put(row, j, at(row, j - 1));
                    j--;
                }
                put(row, j, box);
            }
        }

        private boolean comesAhead(int a, int b, int direction) {
            int difference = tree.doubleCenter(a, direction) - tree.doubleCenter(b, direction);
            return difference < 0 || difference == 0 && a < b;
        }

        /** Puts the items of the row into nodes, which become the row; answers their number. */
        private int groupRow(int count, int level) {
            int made = 0;
            int node = NOTHING;
            for (int i = 0; i < count; i++) {
                int item = at(row, i);
                if (node == NOTHING || tree.sizeOf(node) >= tree.capacity) {
                    node = tree.newNode(level);
                    put(row, made, node);
                    made++;
                }
                tree.addAt(node, tree.sizeOf(node), item);
            }
            return made;
        }
    }

    /** The text, and the rectangles that were found in it. */
    private static final class RectangleText {
        private static final int MOST_CHARACTERS = 80;

        private final int[] characters = new int[MOST_CHARACTERS];
        private int length = 0;
        /** No rectangle takes fewer than eight characters with the sign behind it, so there is room for all. */
        private final int[] parts = new int[MOST_CHARACTERS];
        int rectangles = 0;
        private int part = 0;
        private int digits = 0;
        private int value = 0;

        boolean isFull() {
            return length >= MOST_CHARACTERS;
        }

        int addLast(int character) {
            put(characters, length, character);
            length++;
            return length;
        }

        int makeEmpty() {
            int before = length;
            length = 0;
            return before;
        }

        int partOf(int rectangle, int side) {
            return at(parts, rectangle * SIDES + side);
        }

        /** Answers the fault; if there is none, the rectangles are in the parts then. */
        int findFault() {
            rectangles = 0;
            part = 0;
            digits = 0;
            value = 0;
            for (int i = 0; i < length; i++) {
                int character = at(characters, i);
                boolean fits = character >= '0' && character <= '9'
                    ? takeDigit(character - '0') : takeSign(character);
                if (!fits) {
                    return i;
                }
            }
            boolean complete = part == SIDES - 1 && takeSign(';');
            return complete ? NONE : length;
        }

        private boolean takeDigit(int digit) {
            if (digits == 2 || digits == 1 && value == 0) {
                return false;
            }
            int number = value * 10 + digit;
            int greatest = digits == 0 && digit > 0 ? number * 10 + 9 : number;
            if (greatest < leastNumber()) {
                return false;
            }
            value = number;
            digits++;
            return true;
        }

        private boolean takeSign(int character) {
            char due = part == SIDES - 1 ? ';' : ',';
            if (character != due || digits == 0 || value < leastNumber()) {
                return false;
            }
            put(parts, rectangles * SIDES + part, value);
            part++;
            if (part == SIDES) {
                part = 0;
                rectangles++;
            }
            digits = 0;
            value = 0;
            return true;
        }

        /** x2 is at least x1, and y2 is at least y1. */
        private int leastNumber() {
            return part < 2 ? 0 : at(parts, rectangles * SIDES + part - 2);
        }
    }

    /** The latest states, the oldest one first. */
    private static final class History {
        private static final int MOST_STATES = 4;

        private final Tree[] states = new Tree[MOST_STATES];
        int count = 0;

        History() {
            for (int i = 0; i < states.length; i++) {
                states[i] = new Tree();
            }
        }

        void record(Tree now) {
            if (count >= MOST_STATES) {
                dropOldest();
            }
            Tree state = count >= 0 && count < states.length ? states[count] : null;
            if (state != null) {
                state.copyFrom(now);
                count++;
            }
        }

        private void dropOldest() {
            // The oldest state moves up to the free end, where its rows are used again.
            for (int i = 1; i < states.length; i++) {
                Tree oldest = states[i - 1];
                states[i - 1] = states[i];
                states[i] = oldest;
            }
            count = MOST_STATES - 1;
        }

        void takeBack(Tree now) {
            count--;
            Tree state = count >= 0 && count < states.length ? states[count] : null;
            if (state != null) {
                now.copyFrom(state);
            }
        }
    }
}
