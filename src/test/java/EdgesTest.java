/** The edges that the sentences of the document name: empty, full, least, greatest, just enough and just too few. */
public final class EdgesTest extends Trees {
    private static final int NONE = RectangleTree.NONE;

    private EdgesTest() {
    }

    public static void main(String[] args) {
        withoutBoxes();
        oneBox();
        allBoxes();
        overflowAboveTheCapacity();
        rootsAreNotReinserted();
        minimumOfALeaf();
        minimumOfAnInnerNode();
        rootLosesEntries();
        lastBoxGoes();
        nodesThatAreTooHigh();
        packSizes();
        packWithoutBoxes();
        packAgain();
        capacityChanges();
        reinsertChanges();
        emptyText();
        fullText();
        textThatIsNoListYet();
        leastSecondCorners();
        readLimits();
        emptyHistory();
        fullHistory();
        whatIsRecorded();
        whatIsNotRecorded();
        stateAndSnapshot();
        touchingWindows();
        boundsOfNodes();
        visitedNodes();
        commonAreas();
        fullness();
        fiveHundredCalls();
        end("EdgesTest");
    }

    // ---- no boxes, one box, 24 boxes

    private static void withoutBoxes() {
        RectangleTree tree = new RectangleTree();
        askWithoutBoxes("1 a new object", tree);
        tree.insert(0, 0, 99, 99);
        tree.remove(0);
        askWithoutBoxes("3 the last box is removed", tree);
        tree.pack();
        askWithoutBoxes("4 packed without boxes", tree);
        due("11 save without boxes", tree.save(), 0);
        add(tree, onLine(1, 2, 3, 4, 5, 6));
        due("12 restore without boxes", tree.restore(), 0);
        askWithoutBoxes("12 restored without boxes", tree);
        due("10 undo of it", tree.undo(), 3);
        due("10 the boxes are back", tree.boxes(), 63);
    }

    private static void askWithoutBoxes(String when, RectangleTree tree) {
        due(when + ": boxes", tree.boxes(), 0);
        due(when + ": nodes", tree.nodes(), 1);
        due(when + ": height", tree.height(), 0);
        due(when + ": level of the root", tree.level(0), 0);
        due(when + ": entries of the root", tree.entries(0), 0);
        due(when + ": entry of the root", tree.entry(0, 0), RectangleTree.NO_SUCH);
        for (int side = 0; side < 4; side++) {
            due(when + ": bound of the root", tree.bound(0, side), NONE);
        }
        due(when + ": leaf of a box", tree.leafOf(0), RectangleTree.NO_SUCH);
        due(when + ": side of a box", tree.side(0, 0), RectangleTree.NO_SUCH);
        due(when + ": meeting", tree.meeting(0, 0, 99, 99), 0);
        due(when + ": inside", tree.inside(0, 0, 99, 99), 0);
        due(when + ": visits", tree.visits(0, 0, 99, 99), 1);
        due(when + ": visits of a point", tree.visits(0, 0, 0, 0), 1);
        due(when + ": nearest", tree.nearest(0, 0), NONE);
        due(when + ": area", tree.area(0), 0);
        due(when + ": area above", tree.area(1), RectangleTree.NO_SUCH);
        due(when + ": overlap", tree.overlap(0), 0);
        due(when + ": overlap above", tree.overlap(1), RectangleTree.NO_SUCH);
        due(when + ": fill", tree.fill(), 0);
    }

    private static void oneBox() {
        RectangleTree tree = new RectangleTree();
        due("2 the least box", tree.insert(0, 0, 0, 0), 0);
        due("29 its area is one point", tree.area(0), 1);
        due("25 it meets its point", tree.meeting(0, 0, 0, 0), 1);
        due("26 it lies inside its point", tree.inside(0, 0, 0, 0), 1);
        due("28 it is the nearest from afar", tree.nearest(99, 99), 0);
        tree = new RectangleTree();
        due("2 the greatest box", tree.insert(0, 0, 99, 99), 0);
        due("29 its area is that of all points", tree.area(0), 10000);
        due("25 it meets the last point", tree.meeting(99, 99, 99, 99), 1);
        due("26 it lies inside the whole plane", tree.inside(0, 0, 99, 99), 1);
        due("26 but not inside a column less", tree.inside(0, 0, 98, 99), 0);
        due("20 its bound", tree.bound(0, 2), 99);
    }

    private static void allBoxes() {
        for (int capacity = 3; capacity <= 5; capacity++) {
            for (int reinsert = 0; reinsert <= 1; reinsert++) {
                RectangleTree tree = with(capacity, reinsert, same(23, at(5, 5)));
                due("13 23 boxes", tree.boxes(), 0x7FFFFF);
                due("2 the 24th box", tree.insert(5, 5, 5, 5), 23);
                due("13 24 boxes", tree.boxes(), 0xFFFFFF);
                due("2 the 25th box", tree.insert(5, 5, 5, 5), RectangleTree.TOO_MANY);
                due("25 several boxes with the same corners", tree.meeting(5, 5, 5, 5), 24);
                due("26 several boxes with the same corners", tree.inside(5, 5, 5, 5), 0xFFFFFF);
                due("28 the lowest number of all", tree.nearest(0, 0), 0);
                due("11 save of 24 boxes", tree.save(), 24);
                due("3 remove the first", tree.remove(0), 23);
                due("3 remove the last", tree.remove(23), 22);
                due("12 restore of 24 boxes", tree.restore(), 24);
            }
        }
    }

    // ---- insertion

    private static void overflowAboveTheCapacity() {
        for (int capacity = 3; capacity <= 5; capacity++) {
            RectangleTree tree = with(capacity, 1, same(capacity, at(5, 5)));
            due("2 just CAPACITY entries", tree.nodes(), 1);
            due("23 no split yet", tree.splits(), 0);
            due("31 a full leaf", tree.fill(), 1);
            tree.insert(5, 5, 5, 5);
            due("2 one entry more", tree.nodes(), 3);
            due("23 one split", tree.splits(), 1);
            due("16 a new root, one level higher", tree.height(), 1);
            due("18 a new root has two entries", tree.entries(0), 2);
        }
    }

    private static void rootsAreNotReinserted() {
        RectangleTree tree = with(3, 1, onLine(0, 10, 20));
        add(tree, onLine(30));
        due("24 the root is not treated by reinsertion", tree.reinsertions(), 0);
        due("23 but split", tree.splits(), 1);
        // A root above leaves: both leaves are full, and the reinsertion of a box ends with a third leaf.
        tree = packed(3, 3, 1, onLine(0, 1, 2, 80, 81, 82, 40, 41, 42));
        shapeDue("2 a full root above full leaves", tree, "((0 1 2) (6 7 8) (3 4 5))");
        int splits = tree.splits();
        add(tree, onLine(1));
        due("24 a leaf is treated, the root is not", tree.reinsertions(), 1);
        due("23 a leaf and the root are split", tree.splits(), splits + 2);
        due("16 one level more", tree.height(), 2);
    }

    // ---- removal

    private static void minimumOfALeaf() {
        RectangleTree tree = packed(3, 3, 0, onLine(0, 1, 2, 50));
        removeAll(tree, 0, 1);
        shapeDue("3 MINIMUM of CAPACITY 3 is 1: one box stays", tree, "((2) (3))");
        tree.remove(2);
        shapeDue("3 no box is too few", tree, "(3)");
        tree = packed(4, 4, 0, onLine(0, 1, 2, 3, 50));
        removeAll(tree, 0, 1);
        shapeDue("3 MINIMUM of CAPACITY 4 is 2: two boxes stay", tree, "((2 3) (4))");
        tree.remove(2);
        shapeDue("3 one box is too few at CAPACITY 4", tree, "(4 3)");
        tree = packed(5, 5, 0, onLine(0, 1, 2, 3, 4, 50));
        removeAll(tree, 0, 1, 2);
        shapeDue("3 MINIMUM of CAPACITY 5 is 2: two boxes stay", tree, "((3 4) (5))");
        tree.remove(3);
        shapeDue("3 one box is too few at CAPACITY 5", tree, "(5 4)");
        // The leaf (3) has been too small since the capacity is 4, but only the way from the leaf of the box counts.
        tree = packed(3, 4, 0, onLine(0, 1, 2, 50));
        tree.remove(0);
        shapeDue("3 another leaf that is too small stays", tree, "((1 2) (3))");
        tree.remove(1);
        shapeDue("3 MINIMUM of the capacity of now", tree, "(3 2)");
    }

    private static void minimumOfAnInnerNode() {
        RectangleTree tree = packed(3, 3, 0, onLine(0, 0, 0, 1, 1, 1, 40, 41, 42, 80));
        shapeDue("3 two inner nodes", tree, "(((0 1 2) (3 4 5) (6 7 8)) ((9)))");
        removeAll(tree, 0, 1, 2, 3, 4, 5);
        shapeDue("3 an inner node with one entry stays at CAPACITY 3", tree, "(((6 7 8)) ((9)))");
        due("16 the root has two entries and stays", tree.height(), 2);
        // At a capacity of 4 the leaf (7 8) is large enough, and the node above it is not.
        tree.setSetting(RectangleTree.CAPACITY, 4);
        tree.remove(6);
        shapeDue("3 an inner node with one entry goes at CAPACITY 4", tree, "(9 7 8)");
    }

    private static void rootLosesEntries() {
        RectangleTree tree = packed(3, 3, 0, onLine(0, 0, 0, 1, 1, 1, 40));
        shapeDue("3 three entries", tree, "((0 1 2) (3 4 5) (6))");
        tree.remove(6);
        shapeDue("3 two entries of the root are enough", tree, "((0 1 2) (3 4 5))");
        removeAll(tree, 0, 1, 2);
        shapeDue("3 the only entry becomes the root", tree, "(3 4 5)");
        due("16 the root is a leaf", tree.height(), 0);
        due("21 the leaf of box 3 is the root", tree.leafOf(3), 0);
        // As long as the root is no leaf and has just one entry: two levels go at once.
        tree = packed(3, 3, 0, onLine(0, 0, 0, 1, 1, 1, 40, 41, 42, 80));
        removeAll(tree, 0, 1, 2, 3, 4, 5, 6, 7);
        shapeDue("3 thin branches", tree, "(((8)) ((9)))");
        tree.remove(8);
        shapeDue("3 two levels at once", tree, "(9)");
        due("15 one node", tree.nodes(), 1);
        due("20 its bound", tree.bound(0, 0), 80);
        // The root has one entry then, an inner node with two, which stays.
        tree = packed(3, 3, 0, onLine(0, 0, 0, 1, 1, 1, 40, 41, 42, 80));
        tree.remove(9);
        shapeDue("3 one level", tree, "((0 1 2) (3 4 5) (6 7 8))");
    }

    private static void lastBoxGoes() {
        for (int capacity = 3; capacity <= 5; capacity++) {
            RectangleTree tree = with(capacity, 1, at(0, 0), at(9, 9));
            due("3 the root may have fewer than MINIMUM entries", tree.remove(0), 1);
            shapeDue("3 one box", tree, "(1)");
            due("3 the last box", tree.remove(1), 0);
            shapeDue("3 a leaf without entries", tree, "()");
            due("16 a leaf", tree.height(), 0);
            due("2 the numbers begin anew", tree.insert(4, 4, 4, 4), 0);
            due("20 the bound begins anew", tree.bound(0, 0), 4);
        }
        RectangleTree tree = with(3, 1, same(24, at(7, 7)));
        for (int box = 23; box >= 0; box--) {
            due("3 one box fewer", tree.remove(box), box);
        }
        askWithoutBoxes("3 all boxes removed", tree);
    }

    private static void nodesThatAreTooHigh() {
        RectangleTree tree = packed(3, 3, 0, onLine(0, 0, 0, 1, 1, 1, 40, 41, 42, 80));
        removeAll(tree, 0, 1, 2, 4);
        shapeDue("3 before", tree, "(((3 5) (6 7 8)) ((9)))");
        tree.setSetting(RectangleTree.CAPACITY, 5);
        tree.remove(3);
        // The leaf (6 7 8) was in a node of the level 1, and the root is the leaf (9 5).
        shapeDue("3 a leaf above the level of the root: its boxes", tree, "(9 5 6 7 8)");
        tree = packed(3, 3, 0, onLine(0, 0, 0, 1, 1, 1, 40, 41, 42, 80));
        add(tree, onLine(81, 82, 83));
        removeAll(tree, 0, 1, 2, 4);
        shapeDue("3 two leaves in the other branch", tree, "(((3 5) (6 7 8)) ((9 10) (12 11)))");
        tree.setSetting(RectangleTree.CAPACITY, 4);
        tree.remove(3);
        // The root has the level 1 then, just that of the node in which the leaf was.
        shapeDue("3 a leaf at the level of the root: the node", tree, "((9 10 5) (12 11) (6 7 8))");
    }

    // ---- packing

    private static void packSizes() {
        for (int capacity = 3; capacity <= 5; capacity++) {
            for (int count = 1; count <= 24; count++) {
                RectangleTree tree = new RectangleTree();
                tree.setSetting(RectangleTree.CAPACITY, capacity);
                for (int i = 0; i < count; i++) {
                    tree.insert(i * 4, 99 - i, i * 4, 99 - i);
                }
                String want = packedShape(capacity, count);
                due("4 nodes of " + count, tree.pack(), want.length() - want.replace("(", "").length());
                shapeDue("4 " + count + " boxes at CAPACITY " + capacity, tree, want);
                due("15 nodes behind it", tree.nodes(), want.length() - want.replace("(", "").length());
            }
        }
        due("4 one slice of S = 1", sliceOf(3, 3), 3);
        shapeDue("4 twelve boxes: P = 4, S = 2", packedDiagonal(3, 12),
            "(((5 4 3) (2 1 0) (11 10 9)) ((8 7 6)))");
        shapeDue("4 thirteen boxes: P = 5, S = 3", packedDiagonal(3, 13),
            "(((8 7 6) (5 4 3) (2 1 0)) ((12 11 10) (9)))");
        shapeDue("4 sixteen boxes: P = 4, S = 2", packedDiagonal(4, 16),
            "((7 6 5 4) (3 2 1 0) (15 14 13 12) (11 10 9 8))");
        shapeDue("4 seventeen boxes: P = 5, S = 3", packedDiagonal(4, 17),
            "(((11 10 9 8) (7 6 5 4) (3 2 1 0) (16 15 14 13)) ((12)))");
        shapeDue("4 twenty boxes: P = 4, S = 2", packedDiagonal(5, 20),
            "((9 8 7 6 5) (4 3 2 1 0) (19 18 17 16 15) (14 13 12 11 10))");
        shapeDue("4 24 boxes at CAPACITY 5", packedDiagonal(5, 24),
            "((14 13 12 11 10) (9 8 7 6 5) (4 3 2 1 0) (23 22 21 20 19) (18 17 16 15))");
    }

    private static RectangleTree packedDiagonal(int capacity, int count) {
        int[][] boxes = new int[count][];
        for (int i = 0; i < count; i++) {
            boxes[i] = at(i, 99 - i);
        }
        return packed(capacity, capacity, 1, boxes);
    }

    /** S * CAPACITY: S is 1 for up to CAPACITY boxes, 2 for up to four times as many, otherwise 3. */
    private static int sliceOf(int capacity, int count) {
        return count <= capacity ? capacity : count <= 4 * capacity ? 2 * capacity : 3 * capacity;
    }

    /** The packed tree of boxes on a falling diagonal: each slice is a run of numbers, turned round. */
    private static String packedShape(int capacity, int count) {
        java.util.List<String> row = new java.util.ArrayList<>();
        int slice = sliceOf(capacity, count);
        for (int from = 0; from < count; from += slice) {
            for (int box = Math.min(count, from + slice) - 1; box >= from; box--) {
                row.add(Integer.toString(box));
            }
        }
        do {
            java.util.List<String> next = new java.util.ArrayList<>();
            for (int from = 0; from < row.size(); from += capacity) {
                next.add("(" + String.join(" ", row.subList(from, Math.min(row.size(), from + capacity))) + ")");
            }
            row = next;
        } while (row.size() > 1);
        return row.get(0);
    }

    private static void packWithoutBoxes() {
        RectangleTree tree = new RectangleTree();
        due("4 no boxes: one node", tree.pack(), 1);
        due("16 no boxes: a leaf", tree.height(), 0);
        due("4 once more", tree.pack(), 1);
        due("10 both were actions", tree.undo(), 1);
    }

    private static void packAgain() {
        RectangleTree tree = packedDiagonal(3, 24);
        String shape = shape(tree, 0);
        int splits = tree.splits();
        due("4 packed again", tree.pack(), 12);
        shapeDue("4 the same tree", tree, shape);
        due("10 it was an action, though it changed nothing", tree.undo(), 3);
        due("23 packing is no split", tree.splits(), splits);
        // Many packings, and full leaves between them: the nodes are used again.
        for (int i = 0; i < 100; i++) {
            tree.remove(i % 24);
            tree.insert(i % 50, 50, 50, 99);
            due("4 24 boxes again", tree.pack(), 12);
        }
    }

    // ---- settings

    private static void capacityChanges() {
        RectangleTree tree = packedDiagonal(5, 21);
        String shape = shape(tree, 0);
        due("18 a root of five entries", tree.entries(0), 5);
        due("18 a leaf of five entries", tree.entries(1), 5);
        int splits = tree.splits();
        for (int capacity = 3; capacity <= 5; capacity++) {
            tree.setSetting(RectangleTree.CAPACITY, capacity);
            shapeDue("5 a change of CAPACITY does not change the tree", tree, shape);
            due("31 the fill follows the capacity", tree.fill(), 26f / (6 * capacity));
        }
        tree.setSetting(RectangleTree.CAPACITY, 3);
        // The last leaf, (15), has room for two boxes more; the root has five entries, but gets none.
        tree.insert(15, 84, 15, 84);
        tree.insert(15, 84, 15, 84);
        due("5 a node overflows only when an entry is put into its list", tree.splits(), splits);
        due("5 the root keeps five entries", tree.entries(0), 5);
        tree.setSetting(RectangleTree.REINSERT, 0);
        tree.insert(15, 84, 15, 84);
        due("5 the leaf is split, and the root with it", tree.splits(), splits + 2);
        due("16 one level more", tree.height(), 2);
        // Reinsertion takes one entry out of a leaf of six; five are left, and that is no overflow.
        tree = packed(5, 3, 1, onLine(0, 2, 4, 6, 20, 21, 22));
        splits = tree.splits();
        add(tree, onLine(1));
        shapeDue("5 a node above the capacity is left", tree, "((0 1 2 3 7) (5 6 4))");
        due("24 one reinsertion", tree.reinsertions(), 1);
        due("23 no split", tree.splits(), splits);
    }

    private static void reinsertChanges() {
        RectangleTree tree = packed(3, 3, 0, onLine(0, 10, 20, 22, 24));
        add(tree, onLine(1));
        due("24 REINSERT 0: no reinsertion", tree.reinsertions(), 0);
        due("23 REINSERT 0: a split", tree.splits(), 1);
        tree.undo();
        tree.setSetting(RectangleTree.REINSERT, 1);
        add(tree, onLine(1));
        due("24 REINSERT 1: a reinsertion", tree.reinsertions(), 1);
        due("23 REINSERT 1: no split", tree.splits(), 0);
    }

    // ---- text

    private static void emptyText() {
        RectangleTree tree = new RectangleTree();
        due("8 the fault of the empty text is its length", tree.fault(), 0);
        due("9 the empty text is no list", tree.read(), -100);
        due("7 the empty text has no length", tree.clearText(), 0);
        due("6 the first character", tree.append('0'), 1);
        due("7 it had one character", tree.clearText(), 1);
        due("8 empty again", tree.fault(), 0);
        due("6 the first character again", tree.append('0'), 1);
    }

    private static void fullText() {
        RectangleTree tree = new RectangleTree();
        write(tree, "0,0,0,0;1,1,1,1;2,2,2,2;3,3,3,3;4,4,4,4;5,5,5,5;6,6,6,6;7,7,7,7;8,8,8,8;9,9,9,9");
        due("8 79 characters: a list", tree.fault(), NONE);
        due("6 the 80th character", tree.append('9'), 80);
        due("6 the 81st character", tree.append('9'), RectangleTree.TOO_MANY);
        due("8 80 characters: a list", tree.fault(), NONE);
        due("9 ten boxes", tree.read(), 10);
        due("14 the last number", tree.side(9, 3), 99);
        due("7 80 characters", tree.clearText(), 80);
        due("8 empty", tree.fault(), 0);
        for (int i = 0; i < 80; i++) {
            due("6 room for 80 again", tree.append('x'), i + 1);
        }
        due("6 full again", tree.append('x'), RectangleTree.TOO_MANY);
        due("8 a fault at once", tree.fault(), 0);
        due("9 a fault at once", tree.read(), -100);
        // The text is full, but lists go on: that is no fault, only no complete list.
        tree.clearText();
        write(tree, "10,10,10,10;10,10,10,10;10,10,10,10;10,10,10,10;10,10,10,10;10,10,10,10;10,10,10");
        due("7 just 80 characters", tree.append('1'), RectangleTree.TOO_MANY);
        due("8 the list would need more than 80 characters", tree.fault(), 80);
        due("9 the list would need more than 80 characters", tree.read(), -180);
        // The last character alone is a fault.
        tree.clearText();
        write(tree, "0,0,0,0;1,1,1,1;2,2,2,2;3,3,3,3;4,4,4,4;5,5,5,5;6,6,6,6;7,7,7,7;8,8,8,8;9,9,9,9,");
        due("8 a fault at the last character", tree.fault(), 79);
        due("9 a fault at the last character", tree.read(), -179);
    }

    /** Each beginning of a list: no fault in it, so the fault is the length, unless the list is complete. */
    private static void textThatIsNoListYet() {
        RectangleTree tree = new RectangleTree();
        String list = "10,20,30,40;0,0,0,0;99,99,99,99;5,7,50,60";
        for (int i = 0; i < list.length(); i++) {
            tree.append(list.charAt(i));
            boolean complete = i == 9 || i == 10 || i == 18 || i == 30 || i == 39 || i == 40;
            boolean lessThanFirst = i == 9 || i == 39;
            due("8 the beginning " + list.substring(0, i + 1), tree.fault(),
                complete && !lessThanFirst ? NONE : i + 1);
        }
    }

    /** Each x1 and each beginning of x2: the digits are faults if no number from x1 to 99 begins with them. */
    private static void leastSecondCorners() {
        for (int least = 0; least <= 99; least++) {
            for (int first = 0; first <= 9; first++) {
                boolean one = first >= least;
                boolean ten = first > 0 && first * 10 + 9 >= least;
                secondCorner(least, Integer.toString(first), one || ten ? -1 : 0, one);
                for (int second = 0; second <= 9; second++) {
                    boolean both = first > 0 && first * 10 + second >= least;
                    secondCorner(least, first + "" + second, !one && !ten ? 0 : both ? -1 : 1, both);
                }
            }
        }
    }

    /** The fault is the index in the digits, or -1 if there is none; then a sign may follow if they are enough. */
    private static void secondCorner(int least, String digits, int fault, boolean enough) {
        RectangleTree tree = new RectangleTree();
        write(tree, least + ",0," + digits);
        int start = Integer.toString(least).length() + 3;
        int behind = start + digits.length();
        due("8 x2 " + digits + " behind x1 " + least, tree.fault(), fault < 0 ? behind : start + fault);
        // y1 is 0, so that this is a complete list if x2 is great enough.
        write(tree, ",0");
        due("8 x2 " + digits + " with , behind x1 " + least, tree.fault(),
            fault >= 0 ? start + fault : enough ? NONE : behind);
        tree.clearText();
        write(tree, "0," + least + ",0," + digits);
        start = Integer.toString(least).length() + 5;
        behind = start + digits.length();
        due("8 y2 " + digits + " behind y1 " + least, tree.fault(),
            fault >= 0 ? start + fault : enough ? NONE : behind);
        write(tree, ";");
        due("8 y2 " + digits + " with ; behind y1 " + least, tree.fault(),
            fault >= 0 ? start + fault : enough ? behind + 1 : behind);
    }

    private static void readLimits() {
        for (int boxes = 21; boxes <= 24; boxes++) {
            RectangleTree tree = with(4, 1, same(boxes, at(5, 5)));
            write(tree, "1,1,1,1;2,2,2,2");
            due("9 two boxes more than " + boxes, tree.read(), boxes + 2 <= 24 ? 2 : RectangleTree.TOO_MANY);
            due("9 boxes behind it", Integer.bitCount(tree.boxes()), boxes + 2 <= 24 ? boxes + 2 : boxes);
        }
        RectangleTree tree = with(4, 1, same(23, at(5, 5)));
        write(tree, "1,1,1,1");
        due("9 just 24 boxes", tree.read(), 1);
        due("9 no room for one more", tree.read(), RectangleTree.TOO_MANY);
        tree = new RectangleTree();
        write(tree, "1,1,1,1;2,2,2,2;3,3,3,3;4,4,4,4;5,5,5,5");
        due("9 more boxes than a leaf has room for", tree.read(), 5);
        due("9 a split by it", tree.splits(), 1);
        due("10 one state for all", tree.undo(), 0);
        due("10 no boxes again", tree.boxes(), 0);
        due("10 no splits again", tree.splits(), 0);
    }

    // ---- history and snapshot

    private static void emptyHistory() {
        RectangleTree tree = new RectangleTree();
        due("10 an empty history", tree.undo(), NONE);
        due("10 still empty", tree.undo(), NONE);
        tree.insert(1, 1, 1, 1);
        due("10 one state", tree.undo(), 0);
        due("10 empty again", tree.undo(), NONE);
        due("10 no boxes", tree.boxes(), 0);
        tree.insert(2, 2, 2, 2);
        due("10 undo of undo is not kept", tree.undo(), 0);
        due("10 empty once more", tree.undo(), NONE);
    }

    private static void fullHistory() {
        for (int actions = 1; actions <= 12; actions++) {
            RectangleTree tree = new RectangleTree();
            for (int i = 0; i < actions; i++) {
                tree.insert(i, i, i, i);
            }
            int states = Math.min(actions, 4);
            for (int i = 1; i <= states; i++) {
                due("10 of " + actions + " actions, states left", tree.undo(), states - i);
                due("10 of " + actions + " actions, boxes", tree.boxes(), (1 << actions - i) - 1);
            }
            due("10 of " + actions + " actions, no state more", tree.undo(), NONE);
            due("10 of " + actions + " actions, the oldest state", tree.boxes(), (1 << actions - states) - 1);
        }
        // Undo makes room: two states are taken, and two new ones drop none.
        RectangleTree tree = with(4, 1, onLine(0, 1, 2, 3));
        tree.undo();
        tree.undo();
        add(tree, onLine(7, 8));
        due("10 third", tree.undo(), 3);
        due("10 second", tree.undo(), 2);
        due("10 first", tree.undo(), 1);
        due("10 oldest", tree.undo(), 0);
        due("10 before all boxes", tree.boxes(), 0);
    }

    /** "Even if the action changes nothing": each action records a state. */
    private static void whatIsRecorded() {
        RectangleTree tree = new RectangleTree();
        tree.pack();
        due("4 pack that changes nothing", tree.undo(), 0);
        tree.setSetting(RectangleTree.CAPACITY, 4);
        due("5 CAPACITY that stays", tree.undo(), 0);
        tree.setSetting(RectangleTree.REINSERT, 1);
        due("5 REINSERT that stays", tree.undo(), 0);
        tree.save();
        tree.restore();
        due("12 restore that changes nothing", tree.undo(), 0);
        tree.insert(1, 1, 1, 1);
        due("2 insert", tree.undo(), 0);
        write(tree, "1,1,1,1");
        tree.read();
        due("9 read", tree.undo(), 0);
        tree.insert(1, 1, 1, 1);
        tree.remove(0);
        due("3 remove", tree.undo(), 1);
        due("3 the box is back", tree.boxes(), 1);
    }

    private static void whatIsNotRecorded() {
        RectangleTree tree = new RectangleTree();
        tree.insert(1, 1, 1, 1);
        tree.save();
        write(tree, "1,1,1,1");
        tree.fault();
        tree.clearText();
        tree.read();
        tree.insert(5, 5, 4, 4);
        tree.remove(1);
        tree.setSetting(0, 9);
        tree.append(5);
        tree.nearest(0, 0);
        tree.fill();
        due("10 only the insertion was an action that is recorded", tree.undo(), 0);
        due("10 no box", tree.boxes(), 0);
        tree.undo();
        due("12 undo leaves the snapshot", tree.restore(), 1);
        due("10 restore is recorded", tree.undo(), 0);
        tree = new RectangleTree();
        due("12 a refused restore", tree.restore(), RectangleTree.NOT_POSSIBLE);
        due("12 is not recorded", tree.undo(), NONE);
    }

    private static void stateAndSnapshot() {
        RectangleTree tree = packed(3, 3, 1, onLine(0, 10, 20, 22, 24));
        tree.save();
        String shape = shape(tree, 0);
        add(tree, onLine(1, 1, 1));
        due("24 reinsertions were made", tree.reinsertions() > 0 ? 1 : 0, 1);
        due("23 splits were made", tree.splits() > 0 ? 1 : 0, 1);
        tree.setSetting(RectangleTree.CAPACITY, 5);
        tree.setSetting(RectangleTree.REINSERT, 0);
        write(tree, "77");
        due("12 restore", tree.restore(), 5);
        shapeDue("12 the tree of the snapshot", tree, shape);
        due("12 the capacity of the snapshot", tree.setting(0), 3);
        due("12 the reinsertion of the snapshot", tree.setting(1), 1);
        due("12 the splits of the snapshot", tree.splits(), 0);
        due("12 the reinsertions of the snapshot", tree.reinsertions(), 0);
        due("12 the text is not of the state", tree.fault(), 2);
        due("10 the history is not of the state", tree.undo(), 3);
        due("10 the settings of before", tree.setting(0), 5);
        due("10 the reinsertion of before", tree.setting(1), 0);
        due("10 once more", tree.undo(), 2);
        due("10 the reinsertion ahead of it", tree.setting(1), 1);
        due("10 once more", tree.undo(), 1);
        due("10 the capacity ahead of it", tree.setting(0), 3);
        due("10 the text is not of the state", tree.clearText(), 2);
        tree.remove(0);
        due("12 the snapshot remains", tree.restore(), 5);
        shapeDue("12 the snapshot remains as it was", tree, shape);
        tree.remove(4);
        due("11 the next snapshot replaces it", tree.save(), 4);
        tree.remove(3);
        due("12 the next snapshot", tree.restore(), 4);
        due("13 without box 4", tree.boxes(), 15);
    }

    // ---- windows, bounds and measures

    private static void touchingWindows() {
        RectangleTree tree = with(4, 1, box(10, 20, 30, 50));
        int[][] touching = {{0, 0, 10, 20}, {30, 50, 99, 99}, {0, 50, 10, 99}, {30, 0, 99, 20}, {15, 30, 16, 31}};
        for (int[] w : touching) {
            due("25 a point in common", tree.meeting(w[0], w[1], w[2], w[3]), 1);
        }
        int[][] apart = {{0, 0, 9, 99}, {31, 0, 99, 99}, {0, 0, 99, 19}, {0, 51, 99, 99}, {0, 0, 9, 19}};
        for (int[] w : apart) {
            due("25 just beside", tree.meeting(w[0], w[1], w[2], w[3]), 0);
        }
        due("26 just the box", tree.inside(10, 20, 30, 50), 1);
        due("26 x1 one more", tree.inside(11, 20, 30, 50), 0);
        due("26 y1 one more", tree.inside(10, 21, 30, 50), 0);
        due("26 x2 one less", tree.inside(10, 20, 29, 50), 0);
        due("26 y2 one less", tree.inside(10, 20, 30, 49), 0);
        tree = with(4, 1, box(60, 5, 80, 15));
        due("26 a flat box", tree.inside(60, 5, 80, 15), 1);
        due("26 a flat box, x1", tree.inside(61, 5, 80, 15), 0);
        due("26 a flat box, y1", tree.inside(60, 6, 80, 15), 0);
        due("26 a flat box, x2", tree.inside(60, 5, 79, 15), 0);
        due("26 a flat box, y2", tree.inside(60, 5, 80, 14), 0);
    }

    private static void boundsOfNodes() {
        RectangleTree tree = with(4, 1, box(10, 20, 30, 40));
        int[][] more = {{9, 20, 30, 40}, {10, 19, 30, 40}, {10, 20, 31, 40}, {10, 20, 30, 41}};
        int[] corners = {10, 20, 30, 40};
        for (int side = 0; side < 4; side++) {
            due("20 the bound of one box", tree.bound(0, side), corners[side]);
            tree.insert(more[side][0], more[side][1], more[side][2], more[side][3]);
            due("20 one point more", tree.bound(0, side), more[side][side]);
            tree.remove(1);
            due("20 and back", tree.bound(0, side), corners[side]);
        }
        tree = with(4, 1, at(0, 0), at(99, 99));
        due("20 the least x", tree.bound(0, 0), 0);
        due("20 the least y", tree.bound(0, 1), 0);
        due("20 the greatest x", tree.bound(0, 2), 99);
        due("20 the greatest y", tree.bound(0, 3), 99);
        tree.remove(0);
        due("20 all at 99", tree.bound(0, 0), 99);
        add(tree, at(0, 0));
        tree.remove(1);
        due("20 all at 0", tree.bound(0, 2), 0);
        due("20 all at 0", tree.bound(0, 3), 0);
    }

    private static void visitedNodes() {
        RectangleTree tree = packed(3, 3, 0, onLine(0, 0, 0, 1, 1, 1, 40, 41, 42, 80));
        due("27 the root, though its bound does not meet", tree.visits(81, 0, 99, 99), 1);
        due("27 all nodes", tree.visits(0, 0, 99, 0), 7);
        due("27 an inner node, but none of its leaves", tree.visits(2, 0, 39, 0), 2);
        due("27 the edge of a bound", tree.visits(42, 0, 79, 0), 3);
        due("27 the edge of the other branch", tree.visits(43, 0, 80, 0), 3);
    }

    private static void commonAreas() {
        // Packed by x and then by y, so that the leaves are (0 1 2) and (3).
        RectangleTree tree = packed(3, 3, 0, box(10, 20, 30, 60), box(10, 20, 30, 60), box(10, 20, 30, 60),
            box(25, 50, 70, 90));
        shapeDue("30 two leaves", tree, "((0 1 2) (3))");
        due("30 6 columns and 11 rows", tree.overlap(0), 66);
        due("29 the sum counts them twice", tree.area(0), 21 * 41 + 46 * 41);
        due("30 the root alone", tree.overlap(1), 0);
        due("29 the root", tree.area(1), 61 * 71);
        tree = packed(3, 3, 0, box(40, 0, 90, 50), box(40, 0, 90, 50), box(40, 0, 90, 50), box(5, 45, 41, 99));
        due("30 2 columns and 6 rows", tree.overlap(0), 12);
        tree = packed(3, 3, 0, box(40, 30, 90, 50), box(40, 30, 90, 50), box(40, 30, 90, 50), box(5, 10, 60, 99));
        due("30 21 columns and 21 rows", tree.overlap(0), 21 * 21);
        tree = packed(3, 3, 0, box(10, 20, 30, 60), box(10, 20, 30, 60), box(10, 20, 30, 60), box(15, 30, 20, 99));
        due("30 one through the other", tree.overlap(0), 6 * 31);
        tree = packed(3, 3, 0, box(0, 0, 9, 9), box(0, 0, 9, 9), box(0, 0, 9, 9), box(9, 9, 20, 20));
        due("30 one point in common", tree.overlap(0), 1);
        tree = packed(3, 3, 0, box(0, 0, 9, 9), box(0, 0, 9, 9), box(0, 0, 9, 9), box(9, 10, 20, 20));
        due("30 no row in common", tree.overlap(0), 0);
        tree = packed(3, 3, 0, box(0, 0, 9, 9), box(0, 0, 9, 9), box(0, 0, 9, 9), box(10, 9, 20, 20));
        due("30 no column in common", tree.overlap(0), 0);
        tree = packed(3, 3, 0, box(0, 0, 9, 9), box(0, 0, 9, 9), box(0, 0, 9, 9), box(50, 50, 60, 60));
        due("30 far apart in both directions", tree.overlap(0), 0);
        // Three leaves: the pairs (0, 1), (0, 2) and (1, 2).
        tree = packed(3, 3, 0, box(0, 0, 9, 9), box(0, 0, 9, 9), box(0, 0, 9, 9), box(0, 5, 9, 14), box(0, 5, 9, 14),
            box(0, 5, 9, 14), box(5, 5, 19, 14));
        shapeDue("30 three leaves", tree, "((0 1 2) (3 4 5) (6))");
        due("30 each pair once", tree.overlap(0), 50 + 25 + 50);
    }

    private static void fullness() {
        due("31 three of four", with(4, 1, onLine(1, 2, 3)).fill(), 0.75);
        due("31 a float", with(3, 1, onLine(1, 2)).fill(), 2f / 3);
        // Leaves of 4 and 1 boxes and the root with 2 entries: 7 of 12.
        due("31 seven of twelve", packed(4, 4, 1, onLine(0, 1, 2, 3, 50)).fill(), 7f / 12);
        RectangleTree tree = packed(5, 3, 1, onLine(0, 1, 2, 3, 4));
        due("31 more than full", tree.fill(), 5f / 3);
    }

    /** An object is used for up to 512 calls. */
    private static void fiveHundredCalls() {
        RectangleTree tree = new RectangleTree();
        for (int i = 0; i < 127; i++) {
            due("2 in a long run", tree.insert(i % 90, 0, 99, i % 90), 0);
            due("2 in a long run", tree.insert(0, i % 90, i % 90, 99), 1);
            due("3 in a long run", tree.remove(0), 1);
            due("3 in a long run", tree.remove(1), 0);
        }
        due("10 behind 508 calls", tree.undo(), 3);
    }
}
