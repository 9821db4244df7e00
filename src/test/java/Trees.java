/** What the tests of single promises share: trees made by hand, and the tree as a text. */
abstract class Trees {
    static final int LOW = Integer.MIN_VALUE;
    static final int HIGH = Integer.MAX_VALUE;
    private static final Check CHECK = new Check();
    static final int[][] BAD_RECTANGLES = {
        {-1, 0, 5, 5}, {0, -1, 5, 5}, {6, 0, 5, 5}, {0, 6, 5, 5}, {0, 0, 100, 5}, {0, 0, 5, 100}, {100, 0, 100, 5},
        {0, 100, 5, 100}, {LOW, 0, HIGH, 5}, {0, LOW, 5, HIGH}, {HIGH, HIGH, HIGH, HIGH}, {LOW, LOW, LOW, LOW}};

    static void end(String test) {
        CHECK.end(test);
    }

    static void due(String what, double got, double want) {
        CHECK.due(what, got, want);
    }

    static RectangleTree with(int capacity, int reinsert, int[]... boxes) {
        RectangleTree tree = new RectangleTree();
        tree.setSetting(RectangleTree.CAPACITY, capacity);
        tree.setSetting(RectangleTree.REINSERT, reinsert);
        add(tree, boxes);
        return tree;
    }

    /**
     * The boxes packed with leaves of packCapacity, and then the settings for later: a tree that can be told by hand.
     * Up to five boxes take no split.
     */
    static RectangleTree packed(int packCapacity, int capacity, int reinsert, int[]... boxes) {
        RectangleTree tree = with(5, 0, boxes);
        tree.setSetting(RectangleTree.CAPACITY, packCapacity);
        tree.pack();
        tree.setSetting(RectangleTree.CAPACITY, capacity);
        tree.setSetting(RectangleTree.REINSERT, reinsert);
        return tree;
    }

    static void add(RectangleTree tree, int[]... boxes) {
        for (int[] b : boxes) {
            tree.insert(b[0], b[1], b[2], b[3]);
        }
    }

    static int[] box(int x1, int y1, int x2, int y2) {
        return new int[] {x1, y1, x2, y2};
    }

    static int[] at(int x, int y) {
        return box(x, y, x, y);
    }

    static int[][] onLine(int... xs) {
        int[][] all = new int[xs.length][];
        for (int i = 0; i < xs.length; i++) {
            all[i] = at(xs[i], 0);
        }
        return all;
    }

    static int[][] same(int count, int[] box) {
        int[][] all = new int[count][];
        for (int i = 0; i < count; i++) {
            all[i] = box;
        }
        return all;
    }

    static void write(RectangleTree tree, String text) {
        for (int i = 0; i < text.length(); i++) {
            tree.append(text.charAt(i));
        }
    }

    static void removeAll(RectangleTree tree, int... boxes) {
        for (int box : boxes) {
            tree.remove(box);
        }
    }

    /** The tree as a text: a node in brackets, and the boxes in a leaf by their numbers. */
    static String shape(RectangleTree tree, int node) {
        StringBuilder text = new StringBuilder("(");
        for (int place = 0; place < tree.entries(node); place++) {
            int entry = tree.entry(node, place);
            text.append(place == 0 ? "" : " ");
            text.append(tree.level(node) == 0 ? Integer.toString(entry) : shape(tree, entry));
        }
        return text.append(")").toString();
    }

    static void shapeDue(String what, RectangleTree tree, String want) {
        String got = shape(tree, 0);
        if (got.equals(want)) {
            due(what, 0, 0);
        } else {
            due(what + ": the tree " + got + " instead of " + want + ", which", 0, 1);
        }
    }
}
