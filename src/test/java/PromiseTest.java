/** Each promise by itself: ordinary inputs, the edges that the document names, and wrong inputs. */
public final class PromiseTest extends Trees {
    private PromiseTest() {
    }

    public static void main(String[] args) {
        newObject();
        insert();
        insertDescends();
        insertReinserts();
        insertSplits();
        insertSplitsWithMinimum();
        insertRaisesTheRoot();
        remove();
        removeCondenses();
        removePutsNodesBack();
        removeDissolvesHighNodes();
        pack();
        packTies();
        setSetting();
        lessCapacity();
        append();
        clearText();
        fault();
        read();
        undo();
        save();
        restore();
        boxesAndSides();
        nodesAndLevels();
        entriesAndBounds();
        leafOf();
        setting();
        counters();
        meeting();
        inside();
        visits();
        nearest();
        areaAndOverlap();
        fill();
        end("PromiseTest");
    }

    // ---- promise 1

    private static void newObject() {
        RectangleTree tree = new RectangleTree();
        due("1 boxes", tree.boxes(), 0);
        due("1 nodes", tree.nodes(), 1);
        due("1 height", tree.height(), 0);
        due("1 capacity", tree.setting(RectangleTree.CAPACITY), 4);
        due("1 reinsert", tree.setting(RectangleTree.REINSERT), 1);
        due("1 splits", tree.splits(), 0);
        due("1 reinsertions", tree.reinsertions(), 0);
        due("1 fault", tree.fault(), 0);
        due("1 clearText", tree.clearText(), 0);
        due("1 undo", tree.undo(), RectangleTree.NONE);
        due("1 restore", tree.restore(), RectangleTree.NOT_POSSIBLE);
        new RectangleTree().insert(1, 1, 1, 1);
        due("1 objects share nothing", tree.boxes(), 0);
        due("1 NO_SUCH", RectangleTree.NO_SUCH, -1);
        due("1 BAD_VALUE", RectangleTree.BAD_VALUE, -2);
        due("1 TOO_MANY", RectangleTree.TOO_MANY, -3);
        due("1 NOT_POSSIBLE", RectangleTree.NOT_POSSIBLE, -4);
        due("1 NONE", RectangleTree.NONE, -5);
        due("1 CAPACITY", RectangleTree.CAPACITY, 0);
        due("1 REINSERT", RectangleTree.REINSERT, 1);
    }

    // ---- promise 2

    private static void insert() {
        RectangleTree tree = new RectangleTree();
        for (int[] b : BAD_RECTANGLES) {
            due("2 wrong corners", tree.insert(b[0], b[1], b[2], b[3]), RectangleTree.BAD_VALUE);
        }
        due("2 wrong corners are no action", tree.undo(), RectangleTree.NONE);
        for (int i = 0; i < 24; i++) {
            due("2 number", tree.insert(i * 4, 99 - i, i * 4 + 3, 99), i);
        }
        due("2 full", tree.insert(0, 0, 99, 99), RectangleTree.TOO_MANY);
        due("2 full, wrong corners", tree.insert(0, 0, 99, 100), RectangleTree.BAD_VALUE);
        due("2 full, boxes", tree.boxes(), (1 << 24) - 1);
        due("2 remove 20", tree.remove(20), 23);
        due("2 remove 3", tree.remove(3), 22);
        due("2 least free number", tree.insert(0, 0, 0, 0), 3);
        due("2 next free number", tree.insert(99, 99, 99, 99), 20);
        due("2 undo", tree.undo(), 3);
        due("2 insert once more", tree.insert(99, 0, 99, 0), 20);
        due("2 its corner", tree.side(20, 1), 0);
    }

    private static void insertDescends() {
        RectangleTree tree = with(3, 0, box(0, 0, 4, 9), box(5, 0, 9, 9), box(50, 50, 69, 60), box(50, 61, 69, 69));
        shapeDue("2 two leaves", tree, "((0 1) (3 2))");
        add(tree, box(20, 20, 21, 21));
        shapeDue("2 least enlargement", tree, "((0 1 4) (3 2))");
        // (1 0) is 4 wide and 10 high, (3 2) is 30 wide and 1 high: 20 points more against 34 points more.
        tree = with(3, 0, box(0, 0, 3, 4), box(0, 5, 3, 9), box(6, 0, 20, 0), box(21, 0, 35, 0));
        shapeDue("2 a high leaf and a long one", tree, "((1 0) (3 2))");
        add(tree, box(5, 1, 5, 1));
        shapeDue("2 the enlargement, not the way", tree, "((1 0 4) (3 2))");
        // The new box lies in the bounds of both leaves: the one with the lesser area takes it.
        tree = with(3, 0, box(0, 0, 60, 60), box(0, 0, 61, 61), box(50, 50, 99, 99), box(52, 52, 98, 98));
        shapeDue("2 leaves that overlap", tree, "((0 1) (3 2))");
        add(tree, box(53, 53, 54, 54));
        shapeDue("2 the lesser area", tree, "((0 1) (3 2 4))");
        tree = with(3, 0, onLine(0, 0, 2, 2));
        add(tree, at(1, 0));
        shapeDue("2 the first one of the same", tree, "((0 1 4) (2 3))");
    }

    private static void insertReinserts() {
        RectangleTree tree = with(3, 1, onLine(0, 1, 40, 60));
        due("2 the root is split", tree.splits(), 1);
        due("2 the root is not treated by reinsertion", tree.reinsertions(), 0);
        shapeDue("2 split of the root", tree, "((0 1) (3 2))");
        add(tree, onLine(20));
        tree.remove(2);
        add(tree, box(30, 0, 60, 0));
        shapeDue("2 before the reinsertion", tree, "((0 1 4) (3 2))");
        add(tree, onLine(2));
        // The leaf spans 0..20: the boxes 0 and 4 are the farthest from its center, and 4 is the last one of them.
        shapeDue("2 the last one of the farthest moves", tree, "((0 1 5) (3 2 4))");
        due("2 one reinsertion", tree.reinsertions(), 1);
        due("2 no split more", tree.splits(), 1);
        add(tree, onLine(1));
        // Box 5 goes, but needs the least enlargement where it was: the leaf overflows once more, and is split.
        shapeDue("2 reinsertion into the same leaf", tree, "((0 1 6) (5) (3 2 4))");
        due("2 two reinsertions", tree.reinsertions(), 2);
        due("2 two splits", tree.splits(), 2);
        add(tree, onLine(0));
        due("2 a leaf can be treated again by the next own insertion", tree.reinsertions(), 3);
        due("2 the leaf and the root are split", tree.splits(), 4);
        shapeDue("2 three levels", tree, "(((0 7) (1 6) (5)) ((3 2 4)))");
        tree = with(3, 0, onLine(0, 1, 40, 60, 20, 2));
        due("2 no reinsertion with REINSERT 0", tree.reinsertions(), 0);
        due("2 but a split", tree.splits(), 2);
    }

    private static void insertSplits() {
        RectangleTree tree = with(3, 0, at(7, 7), at(7, 7), at(7, 7), at(7, 7));
        shapeDue("2 of all the same, the first ones", tree, "((0 2) (1 3))");
        tree = with(3, 0, onLine(0, 40, 80, 90));
        shapeDue("2 the most decided one first", tree, "((0 1) (3 2))");
        tree = with(3, 0, onLine(0, 10, 80, 90));
        shapeDue("2 the first of those that are as decided", tree, "((0 1) (3 2))");
        // The box 3 lies in both unions: the one of 1 has the lesser area.
        tree = with(3, 0, box(0, 0, 40, 40), box(40, 40, 60, 60), at(99, 99), box(40, 40, 40, 40));
        shapeDue("2 seeds that are farthest apart", tree, "((0 3 1) (2))");
        tree = with(3, 0, onLine(0, 2, 90, 92, 1, 4));
        shapeDue("2 the new node directly behind the old one", tree, "((0 4 1) (5) (3 2))");
    }

    private static void insertSplitsWithMinimum() {
        RectangleTree tree = with(3, 0, at(0, 0), at(1, 0), at(0, 1), at(99, 99));
        shapeDue("2 MINIMUM of 3 is 1", tree, "((0 1 2) (3))");
        tree = with(4, 0, at(0, 0), at(1, 0), at(0, 1), at(1, 1), at(99, 99));
        shapeDue("2 MINIMUM of 4 is 2", tree, "((0 1 2) (4 3))");
        tree = with(5, 0, at(0, 0), at(1, 0), at(0, 1), at(1, 1), at(2, 2), at(99, 99));
        shapeDue("2 MINIMUM of 5 is 2", tree, "((0 1 2 3) (5 4))");
        tree = with(4, 0, at(99, 99), at(0, 0), at(1, 0), at(0, 1), at(1, 1));
        shapeDue("2 MINIMUM of the first group", tree, "((0 4) (1 2 3))");
    }

    private static void insertRaisesTheRoot() {
        RectangleTree tree = with(3, 0, at(9, 9), at(9, 9), at(9, 9), at(9, 9), at(9, 9), at(9, 9), at(9, 9), at(9, 9));
        due("2 height", tree.height(), 2);
        due("2 nodes", tree.nodes(), 7);
        due("2 splits", tree.splits(), 4);
        due("2 entries of the new root", tree.entries(0), 2);
    }

    // ---- promise 3

    private static void remove() {
        RectangleTree tree = with(4, 1, onLine(5, 6, 7));
        due("3 below all", tree.remove(-1), RectangleTree.NO_SUCH);
        due("3 not there", tree.remove(3), RectangleTree.NO_SUCH);
        due("3 above all", tree.remove(24), RectangleTree.NO_SUCH);
        due("3 far above all", tree.remove(HIGH), RectangleTree.NO_SUCH);
        due("3 far below all", tree.remove(LOW), RectangleTree.NO_SUCH);
        due("3 boxes left", tree.remove(1), 2);
        due("3 not there any more", tree.remove(1), RectangleTree.NO_SUCH);
        shapeDue("3 out of the list", tree, "(0 2)");
        due("3 bound", tree.bound(0, 2), 7);
        due("3 next", tree.remove(2), 1);
        due("3 bound shrinks", tree.bound(0, 2), 5);
        due("3 last", tree.remove(0), 0);
        shapeDue("3 a leaf without entries", tree, "()");
        due("3 nothing left", tree.remove(0), RectangleTree.NO_SUCH);
    }

    private static void removeCondenses() {
        // At a capacity of 4 a leaf with one box is too small: this box is inserted again.
        RectangleTree tree = with(4, 0, onLine(0, 1, 90, 91, 92));
        shapeDue("3 two leaves", tree, "((0 1) (4 3 2))");
        tree.remove(0);
        shapeDue("3 the root gives way to its only entry", tree, "(4 3 2 1)");
        due("3 height", tree.height(), 0);
        due("3 the new root has no holder", tree.leafOf(1), 0);
        // At a capacity of 3 a leaf with one box remains, and one without boxes goes.
        tree = with(3, 0, onLine(0, 1, 90, 91));
        tree.remove(0);
        shapeDue("3 one box is enough", tree, "((1) (3 2))");
        due("3 bound of the leaf", tree.bound(1, 0), 1);
        due("3 bound of the root", tree.bound(0, 0), 1);
        tree.remove(1);
        shapeDue("3 no box is not enough", tree, "(3 2)");
        // Both levels go at once, and then the root gives way.
        tree = threeLevels();
        tree.remove(7);
        shapeDue("3 one box left in the branch", tree, "(((0 1) (2 3) (4 5)) ((6)))");
        tree.remove(6);
        shapeDue("3 the whole branch goes", tree, "((0 1) (2 3) (4 5))");
    }

    /** ((0 1) (2 3) (4 5)) and ((7 6)) below the root, at a capacity of 3 and without reinsertion. */
    private static RectangleTree threeLevels() {
        RectangleTree tree = with(3, 0, onLine(0, 1, 10, 11, 20, 21, 90, 91));
        shapeDue("3 three levels", tree, "(((0 1) (2 3) (4 5)) ((7 6)))");
        return tree;
    }

    private static void removePutsNodesBack() {
        RectangleTree tree = threeLevels();
        add(tree, onLine(92, 93));
        tree.setSetting(RectangleTree.CAPACITY, 4);
        tree.remove(0);
        shapeDue("3 a box is put back", tree, "(((2 3 1) (4 5)) ((6 7) (9 8)))");
        // Box 7 is put back first, then the leaf (9 8) at the level 1, which is that of the root by then.
        due("3 boxes left", tree.remove(6), 8);
        shapeDue("3 a node is put back", tree, "((2 3 1) (4 5 7) (9 8))");
        due("3 no splits from it", tree.splits(), 5);
    }

    private static void removeDissolvesHighNodes() {
        RectangleTree tree = threeLevels();
        tree.remove(0);
        tree.remove(1);
        tree.setSetting(RectangleTree.CAPACITY, 4);
        shapeDue("3 one node has one entry", tree, "(((2 3) (4 5)) ((7 6)))");
        tree.save();
        tree.remove(2);
        // The root became the leaf (7 6): it takes 3 and then, one after the other, the boxes of (4 5).
        shapeDue("3 the boxes of a node that is too high", tree, "((7 6) (3 4 5))");
        due("3 split by the last box", tree.splits(), 5);
        tree.restore();
        add(tree, onLine(92, 93));
        shapeDue("3 a full leaf", tree, "(((2 3) (4 5)) ((7 6 0 1)))");
        tree.remove(2);
        // Box 3 splits the root, so that the leaf (4 5) can be put back as it is.
        shapeDue("3 the root as it is when the turn comes", tree, "((1 0 7) (3 6) (4 5))");
    }

    // ---- promise 4

    private static void pack() {
        RectangleTree tree = new RectangleTree();
        due("4 no boxes", tree.pack(), 1);
        shapeDue("4 a leaf without entries", tree, "()");
        due("4 is an action", tree.undo(), 0);
        add(tree, at(5, 5));
        due("4 one box", tree.pack(), 1);
        shapeDue("4 a leaf", tree, "(0)");
        add(tree, onLine(9, 3, 1));
        due("4 one full leaf", tree.pack(), 1);
        // One slice of all four, sorted by y: the boxes with y 0 come first, by their numbers.
        shapeDue("4 by y at last", tree, "(1 2 3 0)");
        // Nine boxes at a capacity of 4: P is 3, S is 2; slices of 8 and of 1.
        tree = with(4, 1, at(8, 1), at(7, 2), at(6, 3), at(5, 4), at(4, 5), at(3, 6), at(2, 7), at(1, 8), at(0, 9));
        due("4 nine boxes", tree.pack(), 4);
        shapeDue("4 slices", tree, "((1 2 3 4) (5 6 7 8) (0))");
        int splits = tree.splits();
        // Ten boxes at a capacity of 3: P is 4, S is 2; slices of 6 and of 4; then two nodes above four leaves.
        tree.setSetting(RectangleTree.CAPACITY, 3);
        add(tree, at(50, 50));
        splits = tree.splits();
        due("4 ten boxes", tree.pack(), 7);
        shapeDue("4 three levels", tree, "(((3 4 5) (6 7 8) (0 1 2)) ((9)))");
        due("4 height", tree.height(), 2);
        due("4 no splits by packing", tree.splits(), splits);
        due("4 bound", tree.bound(1, 2), 8);
        due("4 leaf of 9", tree.leafOf(9), 6);
        add(tree, at(51, 51));
        shapeDue("4 insertion behind it", tree, "(((3 4 5) (6 7 8) (0 1 2)) ((9 10)))");
    }

    private static void packTies() {
        // The double centers decide: 0..3 lies ahead of 2..2 only by the halves.
        RectangleTree tree = with(3, 1, box(2, 0, 2, 0), box(0, 0, 3, 0), box(1, 0, 2, 0), box(90, 0, 90, 0));
        tree.pack();
        // P is 2, S is 2: one slice, so x does not matter, and the y are all the same.
        shapeDue("4 by numbers in a slice", tree, "((0 1 2) (3))");
        // Seven boxes: P is 3, S is 2; the slice of six is that of the least centers, with ties by numbers.
        tree = with(3, 1, onLine(9, 5, 5, 5, 5, 5, 5));
        tree.pack();
        shapeDue("4 ties in x", tree, "((1 2 3) (4 5 6) (0))");
        tree = with(3, 1, box(6, 0, 7, 0), box(0, 0, 12, 0), box(0, 0, 1, 0), box(1, 0, 1, 0), box(2, 0, 2, 0),
            box(3, 0, 3, 0), box(4, 0, 4, 0));
        tree.pack();
        shapeDue("4 double centers in x", tree, "((1 2 3) (4 5 6) (0))");
        tree = with(3, 1, box(0, 6, 0, 7), box(0, 0, 0, 12), box(0, 0, 0, 1), box(0, 1, 0, 1));
        tree.pack();
        shapeDue("4 double centers in y", tree, "((2 3 1) (0))");
        // The boxes with the same y come by their numbers, not by their x.
        tree = with(3, 1, at(3, 0), at(2, 0), at(1, 0), at(0, 0));
        tree.pack();
        shapeDue("4 ties in y", tree, "((0 1 2) (3))");
    }

    // ---- promise 5

    private static void setSetting() {
        RectangleTree tree = new RectangleTree();
        due("5 no such setting", tree.setSetting(2, 0), RectangleTree.NO_SUCH);
        due("5 no such setting", tree.setSetting(-1, 4), RectangleTree.NO_SUCH);
        due("5 no such setting, far", tree.setSetting(HIGH, 4), RectangleTree.NO_SUCH);
        due("5 no such setting ahead of a bad value", tree.setSetting(LOW, 100), RectangleTree.NO_SUCH);
        due("5 capacity too small", tree.setSetting(0, 2), RectangleTree.BAD_VALUE);
        due("5 capacity too great", tree.setSetting(0, 6), RectangleTree.BAD_VALUE);
        due("5 capacity far too small", tree.setSetting(0, LOW), RectangleTree.BAD_VALUE);
        due("5 reinsert too small", tree.setSetting(1, -1), RectangleTree.BAD_VALUE);
        due("5 reinsert too great", tree.setSetting(1, 2), RectangleTree.BAD_VALUE);
        due("5 reinsert far too great", tree.setSetting(1, HIGH), RectangleTree.BAD_VALUE);
        due("5 errors are no actions", tree.undo(), RectangleTree.NONE);
        due("5 capacity unchanged", tree.setting(0), 4);
        due("5 reinsert unchanged", tree.setting(1), 1);
        due("5 least capacity", tree.setSetting(0, 3), 4);
        due("5 greatest capacity", tree.setSetting(0, 5), 3);
        due("5 no reinsertion", tree.setSetting(1, 0), 1);
        due("5 reinsertion", tree.setSetting(1, 1), 0);
        due("5 the same again", tree.setSetting(1, 1), 1);
        due("5 is an action, even without a change", tree.undo(), 3);
        due("5 undo of a setting", tree.undo(), 2);
        due("5 reinsert as before", tree.setting(1), 0);
        due("5 capacity as before", tree.setting(0), 5);
    }

    private static void lessCapacity() {
        RectangleTree tree = with(5, 0, onLine(0, 1, 2, 3, 4));
        tree.setSetting(RectangleTree.CAPACITY, 3);
        shapeDue("5 the tree stays", tree, "(0 1 2 3 4)");
        due("5 fill above 1", tree.fill(), 5f / 3);
        tree.remove(4);
        shapeDue("5 no overflow by removal", tree, "(0 1 2 3)");
        add(tree, at(4, 0), at(90, 0));
        due("5 overflow by the next entry", tree.splits() > 0 ? 1 : 0, 1);
        tree = with(5, 1, onLine(0, 1, 2, 3, 4));
        tree.setSetting(RectangleTree.CAPACITY, 3);
        add(tree, at(90, 0));
        shapeDue("5 a split leaves a node above the capacity", tree, "((0 1 2 3 4) (5))");
        due("5 one split", tree.splits(), 1);
        add(tree, at(2, 0));
        // Box 0 and box 4 are the farthest: 4 goes and comes back, and then the leaf of six is split.
        due("5 treated once", tree.reinsertions(), 1);
        due("5 and then split", tree.splits(), 2);
    }

    // ---- promise 6

    private static void append() {
        RectangleTree tree = new RectangleTree();
        due("6 too small", tree.append(31), RectangleTree.BAD_VALUE);
        due("6 too great", tree.append(127), RectangleTree.BAD_VALUE);
        due("6 far too small", tree.append(LOW), RectangleTree.BAD_VALUE);
        due("6 far too great", tree.append(HIGH), RectangleTree.BAD_VALUE);
        due("6 a digit that is only one modulo 65536", tree.append(65536 + '1'), RectangleTree.BAD_VALUE);
        due("6 nothing appended", tree.clearText(), 0);
        due("6 least", tree.append(32), 1);
        due("6 greatest", tree.append(126), 2);
        for (int i = 3; i <= 80; i++) {
            due("6 length", tree.append('0' + i % 10), i);
        }
        due("6 full", tree.append('0'), RectangleTree.TOO_MANY);
        due("6 full, too great", tree.append(127), RectangleTree.BAD_VALUE);
        due("6 is no action", tree.undo(), RectangleTree.NONE);
        due("6 length stays", tree.clearText(), 80);
    }

    // ---- promise 7

    private static void clearText() {
        RectangleTree tree = new RectangleTree();
        due("7 empty", tree.clearText(), 0);
        write(tree, "x1,2");
        due("7 length", tree.clearText(), 4);
        due("7 empty again", tree.clearText(), 0);
        write(tree, "1,2,3,4");
        due("7 the new text only", tree.fault(), RectangleTree.NONE);
        due("7 is no action", tree.undo(), RectangleTree.NONE);
    }

    // ---- promise 8

    private static void fault() {
        faultDue("", 0);
        faultDue("0,0,0,0", RectangleTree.NONE);
        faultDue("99,99,99,99", RectangleTree.NONE);
        faultDue("1,2,3,4;5,6,7,8", RectangleTree.NONE);
        faultDue("1,2,3,4;", 8);
        faultDue("1,2,3,4;5", 9);
        faultDue("1,2,3", 5);
        faultDue("1,2,3,", 6);
        faultDue("a", 0);
        faultDue(",", 0);
        faultDue(";", 0);
        faultDue(" 1,2,3,4", 0);
        faultDue("-1,2,3,4", 0);
        faultDue("1 ,2,3,4", 1);
        faultDue("1;", 1);
        faultDue("1,,", 2);
        faultDue("00,", 1);
        faultDue("01,", 1);
        faultDue("100,", 2);
        faultDue("1,00", 3);
        faultDue("1,2,3,4,", 7);
        faultDue("1,2,3;", 5);
        faultDue("1,2,3,4 ", 7);
        faultDue("1,2,3,4;;", 8);
        // x2
        faultDue("5,0,4,", 5);
        faultDue("5,0,4", 5);
        faultDue("5,0,0", 4);
        faultDue("0,0,0,", 6);
        faultDue("0,0,00", 5);
        faultDue("50,0,4", 5);
        faultDue("50,0,5,", 6);
        faultDue("55,0,54", 6);
        faultDue("55,0,55,0", RectangleTree.NONE);
        faultDue("55,0,6,", 6);
        faultDue("55,0,555", 7);
        faultDue("99,0,98", 6);
        faultDue("9,0,9,0", RectangleTree.NONE);
        faultDue("9,0,8", 5);
        faultDue("10,0,9,", 6);
        faultDue("20,0,1", 5);
        // y2
        faultDue("0,5,0,4", 7);
        faultDue("0,5,0,4;", 7);
        faultDue("0,5,0,40", RectangleTree.NONE);
        faultDue("0,50,0,4", 7);
        faultDue("0,50,0,5", 8);
        faultDue("0,50,0,5;", 8);
        faultDue("0,50,0,49", 7);
        faultDue("0,55,0,54", 8);
        faultDue("0,55,0,55", RectangleTree.NONE);
        faultDue("0,1,0,0", 6);
        faultDue("0,0,0,0;3,4,2", 13);
        faultDue("0,0,0,0;30,4,2", 13);
        faultDue("9,9,9,9;1,1,1,1", RectangleTree.NONE);
    }

    private static void faultDue(String text, int want) {
        RectangleTree tree = new RectangleTree();
        write(tree, text);
        due("8 fault of '" + text + "'", tree.fault(), want);
        due("8 fault again of '" + text + "'", tree.fault(), want);
        due("8 is no action", tree.undo(), RectangleTree.NONE);
        due("8 text stays", tree.clearText(), text.length());
    }

    // ---- promise 9

    private static void read() {
        RectangleTree tree = new RectangleTree();
        due("9 empty text", tree.read(), -100);
        write(tree, "1,2,3,4;5,6,7,8");
        due("9 two boxes", tree.read(), 2);
        due("9 boxes", tree.boxes(), 3);
        due("9 x1 of 0", tree.side(0, 0), 1);
        due("9 y1 of 0", tree.side(0, 1), 2);
        due("9 x2 of 0", tree.side(0, 2), 3);
        due("9 y2 of 0", tree.side(0, 3), 4);
        due("9 y2 of 1", tree.side(1, 3), 8);
        due("9 the text stays", tree.fault(), RectangleTree.NONE);
        due("9 once more", tree.read(), 2);
        due("9 four boxes", tree.boxes(), 15);
        due("9 one action for all boxes", tree.undo(), 1);
        due("9 boxes before", tree.boxes(), 3);
        tree.append(';');
        due("9 fault at the end", tree.read(), -116);
        tree.clearText();
        write(tree, "1,2,0");
        due("9 fault", tree.read(), -104);
        due("9 an error is no action", tree.undo(), 0);
        readsUpToTheLimit();
        readsTheLongestList();
        // Each box is an own insertion, so each of them can be followed by a reinsertion at level 0.
        tree = with(3, 1, onLine(0, 1, 40, 60, 2));
        write(tree, "1,0,1,0;0,0,0,0;1,0,1,0;2,0,2,0;0,0,0,0");
        RectangleTree other = with(3, 1, onLine(0, 1, 40, 60, 2, 1, 0, 1, 2, 0));
        due("9 boxes one by one", tree.read(), 5);
        due("9 own insertions", tree.reinsertions(), other.reinsertions());
        due("9 more than one", tree.reinsertions() > 1 ? 1 : 0, 1);
        shapeDue("9 as by insert", tree, shape(other, 0));
    }

    private static void readsUpToTheLimit() {
        RectangleTree tree = new RectangleTree();
        for (int i = 0; i < 22; i++) {
            tree.insert(i, i, i, i);
        }
        write(tree, "1,2,3,4;5,6,7,8;9,9,9,9");
        due("9 too many", tree.read(), RectangleTree.TOO_MANY);
        due("9 none of them came in", tree.boxes(), (1 << 22) - 1);
        due("9 too many is no action", tree.undo(), 3);
        tree.remove(0);
        due("9 room for three", tree.read(), 3);
        due("9 numbers", tree.boxes(), (1 << 23) - 1);
        due("9 least number first", tree.side(0, 3), 4);
        tree.append(';');
        due("9 fault ahead of too many", tree.read(), -124);
    }

    private static void readsTheLongestList() {
        RectangleTree tree = new RectangleTree();
        for (int i = 0; i < 10; i++) {
            write(tree, i == 0 ? "" : ";");
            write(tree, i + "," + i + ",9,9");
        }
        tree.append(';');
        due("9 full text with a fault", tree.read(), -180);
        tree.clearText();
        write(tree, "0,0,0,0;1,1,1,1;2,2,2,2;3,3,3,3;4,4,4,4;5,5,5,5;6,6,6,6;7,7,7,7;8,8,8,8;9,9,9,99");
        due("9 ten rectangles in eighty signs", tree.read(), 10);
        due("9 the last one", tree.side(9, 3), 99);
        due("9 full", tree.append('0'), RectangleTree.TOO_MANY);
    }

    // ---- promises 10 to 12

    private static void undo() {
        RectangleTree tree = new RectangleTree();
        due("10 nothing", tree.undo(), RectangleTree.NONE);
        add(tree, onLine(0, 1, 2, 3));
        write(tree, "7");
        due("10 three states left", tree.undo(), 3);
        due("10 boxes", tree.boxes(), 7);
        due("10 text stays", tree.clearText(), 1);
        add(tree, onLine(5, 6, 7, 8, 9));
        due("10 at most four", tree.undo(), 3);
        due("10 third", tree.undo(), 2);
        due("10 second", tree.undo(), 1);
        due("10 first", tree.undo(), 0);
        shapeDue("10 the oldest that is left", tree, "(0 1 2 3)");
        due("10 the x of 3", tree.side(3, 0), 5);
        due("10 no more", tree.undo(), RectangleTree.NONE);
        due("10 no more, boxes", tree.boxes(), 15);
        tree = with(3, 1, onLine(0, 1, 40, 60, 2));
        int splits = tree.splits();
        add(tree, onLine(1, 0));
        due("10 a reinsertion", tree.reinsertions() > 0 ? 1 : 0, 1);
        tree.undo();
        tree.undo();
        due("10 splits of the state", tree.splits(), splits);
        due("10 reinsertions of the state", tree.reinsertions(), 0);
        add(tree, onLine(1, 0));
        tree.remove(0);
        tree.pack();
        tree.undo();
        tree.undo();
        due("10 the removed box is back", tree.side(0, 0), 0);
    }

    private static void save() {
        RectangleTree tree = new RectangleTree();
        due("11 no boxes", tree.save(), 0);
        due("11 is no action", tree.undo(), RectangleTree.NONE);
        add(tree, onLine(3, 4));
        due("11 two boxes", tree.save(), 2);
        due("11 is no action", tree.undo(), 1);
        due("11 undo does not touch the snapshot", tree.restore(), 2);
        tree.remove(0);
        due("11 replaces the snapshot", tree.save(), 1);
        tree.remove(1);
        due("11 the later one", tree.restore(), 1);
        due("11 its box", tree.boxes(), 2);
    }

    private static void restore() {
        RectangleTree tree = new RectangleTree();
        due("12 no snapshot", tree.restore(), RectangleTree.NOT_POSSIBLE);
        due("12 an error is no action", tree.undo(), RectangleTree.NONE);
        add(tree, onLine(3, 4, 5, 6, 50));
        tree.setSetting(RectangleTree.REINSERT, 0);
        String shape = shape(tree, 0);
        tree.save();
        tree.setSetting(RectangleTree.CAPACITY, 5);
        tree.setSetting(RectangleTree.REINSERT, 1);
        for (int box = 0; box < 5; box++) {
            tree.remove(box);
        }
        add(tree, at(9, 9));
        write(tree, "88");
        due("12 five boxes", tree.restore(), 5);
        shapeDue("12 the tree", tree, shape);
        due("12 capacity", tree.setting(0), 4);
        due("12 reinsert", tree.setting(1), 0);
        due("12 splits", tree.splits(), 1);
        due("12 corner", tree.side(0, 0), 3);
        due("12 the text stays", tree.clearText(), 2);
        due("12 is an action", tree.undo(), 3);
        due("12 before it", tree.boxes(), 1);
        due("12 its box", tree.side(0, 1), 9);
        due("12 the snapshot remains", tree.restore(), 5);
        tree.remove(4);
        due("12 and does not change with the tree", tree.restore(), 5);
    }

    // ---- promises 13 to 22

    private static void boxesAndSides() {
        RectangleTree tree = with(4, 1, box(1, 2, 3, 4), box(5, 6, 7, 8), box(9, 10, 11, 12));
        due("13 three", tree.boxes(), 7);
        tree.remove(1);
        due("13 a gap", tree.boxes(), 5);
        for (int side = 0; side < 4; side++) {
            due("14 side of 0", tree.side(0, side), 1 + side);
            due("14 side of 2", tree.side(2, side), 9 + side);
        }
        due("14 no such box", tree.side(1, 0), RectangleTree.NO_SUCH);
        due("14 no such box, bad side", tree.side(3, 4), RectangleTree.NO_SUCH);
        due("14 box too small", tree.side(-1, 0), RectangleTree.NO_SUCH);
        due("14 box too great", tree.side(24, 0), RectangleTree.NO_SUCH);
        due("14 box far too great", tree.side(HIGH, 0), RectangleTree.NO_SUCH);
        due("14 box far too small", tree.side(LOW, 0), RectangleTree.NO_SUCH);
        due("14 side too small", tree.side(0, -1), RectangleTree.BAD_VALUE);
        due("14 side too great", tree.side(0, 4), RectangleTree.BAD_VALUE);
        due("14 side far too small", tree.side(0, LOW), RectangleTree.BAD_VALUE);
        due("14 side far too great", tree.side(0, HIGH), RectangleTree.BAD_VALUE);
        for (int i = 0; i < 24; i++) {
            tree.insert(0, 0, 0, 0);
        }
        due("13 all", tree.boxes(), 16777215);
        due("14 the last box", tree.side(23, 3), 0);
    }

    private static void nodesAndLevels() {
        RectangleTree tree = new RectangleTree();
        due("15 a leaf", tree.nodes(), 1);
        due("16 a leaf", tree.height(), 0);
        due("17 the root", tree.level(0), 0);
        due("17 below all", tree.level(-1), RectangleTree.NO_SUCH);
        due("17 above all", tree.level(1), RectangleTree.NO_SUCH);
        tree = threeLevels();
        due("15 seven nodes", tree.nodes(), 7);
        due("16 two levels up", tree.height(), 2);
        int[] levels = {2, 1, 0, 0, 0, 1, 0};
        for (int node = 0; node < 7; node++) {
            due("17 level of " + node, tree.level(node), levels[node]);
        }
        due("17 above all", tree.level(7), RectangleTree.NO_SUCH);
        due("17 far above all", tree.level(HIGH), RectangleTree.NO_SUCH);
        due("17 far below all", tree.level(LOW), RectangleTree.NO_SUCH);
    }

    private static void entriesAndBounds() {
        RectangleTree tree = new RectangleTree();
        due("18 none", tree.entries(0), 0);
        due("19 none", tree.entry(0, 0), RectangleTree.NO_SUCH);
        due("20 none", tree.bound(0, 3), RectangleTree.NONE);
        due("20 none, bad side", tree.bound(0, 4), RectangleTree.BAD_VALUE);
        tree = threeLevels();
        int[] sizes = {2, 3, 2, 2, 2, 1, 2};
        int[] firsts = {1, 2, 0, 2, 4, 6, 7};
        int[] lasts = {5, 4, 1, 3, 5, 6, 6};
        int[] lefts = {0, 0, 0, 10, 20, 90, 90};
        int[] rights = {91, 21, 1, 11, 21, 91, 91};
        for (int node = 0; node < 7; node++) {
            due("18 entries of " + node, tree.entries(node), sizes[node]);
            due("19 first entry of " + node, tree.entry(node, 0), firsts[node]);
            due("19 last entry of " + node, tree.entry(node, sizes[node] - 1), lasts[node]);
            due("19 no entry of " + node, tree.entry(node, sizes[node]), RectangleTree.NO_SUCH);
            due("19 no entry of " + node, tree.entry(node, -1), RectangleTree.NO_SUCH);
            due("20 x1 of " + node, tree.bound(node, 0), lefts[node]);
            due("20 y1 of " + node, tree.bound(node, 1), 0);
            due("20 x2 of " + node, tree.bound(node, 2), rights[node]);
            due("20 y2 of " + node, tree.bound(node, 3), 0);
        }
        for (int node : new int[] {-1, 7, HIGH, LOW}) {
            due("18 no node " + node, tree.entries(node), RectangleTree.NO_SUCH);
            due("19 no node " + node, tree.entry(node, 0), RectangleTree.NO_SUCH);
            due("20 no node " + node, tree.bound(node, 0), RectangleTree.NO_SUCH);
            due("20 no node, no side " + node, tree.bound(node, 9), RectangleTree.NO_SUCH);
        }
        for (int wrong : new int[] {-1, 4, HIGH, LOW}) {
            due("20 no side " + wrong, tree.bound(0, wrong), RectangleTree.BAD_VALUE);
            due("19 no place " + wrong, tree.entry(0, wrong), RectangleTree.NO_SUCH);
        }
        tree = with(4, 1, box(10, 20, 30, 40), box(5, 25, 20, 60));
        int[] union = {5, 20, 30, 60};
        for (int side = 0; side < 4; side++) {
            due("20 union", tree.bound(0, side), union[side]);
        }
    }

    private static void leafOf() {
        RectangleTree tree = threeLevels();
        int[] leaves = {2, 2, 3, 3, 4, 4, 6, 6};
        for (int box = 0; box < 8; box++) {
            due("21 leaf of " + box, tree.leafOf(box), leaves[box]);
        }
        for (int box : new int[] {-1, 8, 23, 24, HIGH, LOW}) {
            due("21 no box " + box, tree.leafOf(box), RectangleTree.NO_SUCH);
        }
        tree.remove(3);
        due("21 removed", tree.leafOf(3), RectangleTree.NO_SUCH);
        due("21 a new object", new RectangleTree().leafOf(0), RectangleTree.NO_SUCH);
    }

    private static void setting() {
        RectangleTree tree = with(5, 0);
        due("22 capacity", tree.setting(RectangleTree.CAPACITY), 5);
        due("22 reinsert", tree.setting(RectangleTree.REINSERT), 0);
        for (int wrong : new int[] {-1, 2, HIGH, LOW}) {
            due("22 no setting " + wrong, tree.setting(wrong), RectangleTree.NO_SUCH);
        }
    }

    // ---- promises 23 and 24

    private static void counters() {
        RectangleTree tree = with(3, 1, onLine(0, 1, 40));
        due("23 none yet", tree.splits(), 0);
        due("24 none yet", tree.reinsertions(), 0);
        add(tree, onLine(60));
        due("23 one", tree.splits(), 1);
        add(tree, onLine(2, 1));
        due("23 a split of a leaf", tree.splits(), 2);
        due("24 behind a reinsertion", tree.reinsertions(), 1);
        tree.remove(0);
        tree.pack();
        due("23 so far", tree.splits(), 2);
        due("24 so far", tree.reinsertions(), 1);
    }

    // ---- promises 25 to 28

    private static void meeting() {
        RectangleTree tree = with(3, 1, box(10, 10, 20, 20), box(20, 20, 30, 30), box(21, 5, 40, 9), at(50, 50));
        add(tree, at(99, 0));
        due("25 all", tree.meeting(0, 0, 99, 99), 5);
        due("25 none", tree.meeting(0, 0, 9, 99), 0);
        due("25 a corner", tree.meeting(20, 20, 20, 20), 2);
        due("25 left edge", tree.meeting(0, 15, 10, 15), 1);
        due("25 right edge", tree.meeting(30, 25, 35, 25), 1);
        due("25 upper edge", tree.meeting(25, 9, 25, 19), 1);
        due("25 lower edge", tree.meeting(10, 0, 20, 10), 1);
        due("25 between", tree.meeting(21, 10, 40, 19), 0);
        due("25 inside of a box", tree.meeting(25, 25, 26, 26), 1);
        due("25 across a box", tree.meeting(12, 0, 13, 99), 1);
        due("25 a corner of all", tree.meeting(99, 0, 99, 0), 1);
        for (int[] b : BAD_RECTANGLES) {
            due("25 wrong corners", tree.meeting(b[0], b[1], b[2], b[3]), RectangleTree.BAD_VALUE);
            due("26 wrong corners", tree.inside(b[0], b[1], b[2], b[3]), RectangleTree.BAD_VALUE);
            due("27 wrong corners", tree.visits(b[0], b[1], b[2], b[3]), RectangleTree.BAD_VALUE);
        }
        tree.remove(3);
        due("25 removed", tree.meeting(50, 50, 50, 50), 0);
        due("25 a new object", new RectangleTree().meeting(0, 0, 99, 99), 0);
    }

    private static void inside() {
        RectangleTree tree = with(3, 1, box(10, 10, 20, 20), box(20, 20, 30, 30), box(21, 5, 40, 9), at(50, 50));
        add(tree, at(99, 99));
        due("26 all", tree.inside(0, 0, 99, 99), 31);
        due("26 the corners of a box", tree.inside(10, 10, 20, 20), 1);
        due("26 x1 less", tree.inside(11, 10, 20, 20), 0);
        due("26 y1 less", tree.inside(10, 11, 20, 20), 0);
        due("26 x2 less", tree.inside(10, 10, 19, 20), 0);
        due("26 y2 less", tree.inside(10, 10, 20, 19), 0);
        due("26 two", tree.inside(10, 10, 30, 30), 3);
        due("26 others", tree.inside(21, 0, 99, 98), 12);
        due("26 the last", tree.inside(99, 99, 99, 99), 16);
        tree.remove(0);
        due("26 removed", tree.inside(10, 10, 30, 30), 2);
        due("26 a new object", new RectangleTree().inside(0, 0, 99, 99), 0);
    }

    private static void visits() {
        due("27 the root without entries", new RectangleTree().visits(5, 5, 6, 6), 1);
        RectangleTree tree = threeLevels();
        due("27 all", tree.visits(0, 0, 99, 99), 7);
        due("27 the root alone", tree.visits(0, 1, 99, 99), 1);
        due("27 between two leaves", tree.visits(5, 0, 6, 0), 2);
        due("27 one leaf", tree.visits(11, 0, 15, 0), 3);
        due("27 two leaves", tree.visits(1, 0, 10, 9), 4);
        due("27 the other branch", tree.visits(91, 0, 99, 0), 3);
        due("27 outside of the bound of the root", tree.visits(92, 0, 99, 0), 1);
        due("27 a leaf as root", with(4, 1, at(5, 5)).visits(7, 7, 8, 8), 1);
    }

    private static void nearest() {
        RectangleTree tree = new RectangleTree();
        due("28 no box", tree.nearest(0, 0), RectangleTree.NONE);
        due("28 no box, bad value", tree.nearest(0, 100), RectangleTree.BAD_VALUE);
        tree = with(3, 1, box(10, 10, 20, 20), box(40, 10, 50, 20), box(10, 40, 20, 99), box(41, 21, 42, 22));
        int[][] wrong = {{-1, 0}, {0, -1}, {100, 0}, {0, 100}, {LOW, LOW}, {HIGH, HIGH}};
        for (int[] point : wrong) {
            due("28 wrong point", tree.nearest(point[0], point[1]), RectangleTree.BAD_VALUE);
        }
        due("28 inside", tree.nearest(15, 15), 0);
        due("28 left", tree.nearest(0, 15), 0);
        due("28 the same way: the lowest number", tree.nearest(30, 15), 0);
        due("28 one nearer", tree.nearest(31, 15), 1);
        due("28 by the corner", tree.nearest(34, 26), 3);
        due("28 by squares", tree.nearest(26, 28), 0);
        due("28 below", tree.nearest(15, 32), 2);
        due("28 far below", tree.nearest(99, 99), 2);
        due("28 inside ahead of the lowest number", tree.nearest(42, 22), 3);
        tree = with(3, 1, box(0, 0, 99, 99), at(5, 5), at(5, 5));
        due("28 a great box contains the point too", tree.nearest(5, 5), 0);
        tree.remove(0);
        due("28 of two alike", tree.nearest(99, 99), 1);
    }

    // ---- promises 29 to 31

    private static void areaAndOverlap() {
        RectangleTree tree = new RectangleTree();
        due("29 no entries", tree.area(0), 0);
        due("30 no entries", tree.overlap(0), 0);
        add(tree, box(10, 10, 19, 29));
        due("29 one box", tree.area(0), 200);
        due("30 one leaf", tree.overlap(0), 0);
        tree = threeLevels();
        due("29 leaves", tree.area(0), 8);
        due("29 level 1", tree.area(1), 24);
        due("29 the root", tree.area(2), 92);
        due("30 apart", tree.overlap(0), 0);
        for (int level : new int[] {-1, 3, HIGH, LOW}) {
            due("29 no level " + level, tree.area(level), RectangleTree.NO_SUCH);
            due("30 no level " + level, tree.overlap(level), RectangleTree.NO_SUCH);
        }
        tree = with(3, 0, box(0, 0, 60, 60), box(0, 0, 61, 61), box(50, 50, 99, 99), box(52, 52, 98, 98));
        shapeDue("30 two leaves", tree, "((0 1) (3 2))");
        due("29 both", tree.area(0), 62 * 62 + 50 * 50);
        due("30 common part", tree.overlap(0), 12 * 12);
        due("30 the root has no partner", tree.overlap(1), 0);
        // Four leaves of the same point: six pairs.
        tree = with(3, 0, at(9, 9), at(9, 9), at(9, 9), at(9, 9), at(9, 9), at(9, 9), at(9, 9), at(9, 9));
        due("30 pairs of leaves", tree.overlap(0), 6);
        due("30 pairs of level 1", tree.overlap(1), 1);
        due("29 four leaves", tree.area(0), 4);
        // Packed columns that touch in one column of points.
        tree = with(3, 0, box(0, 0, 99, 99), box(0, 0, 99, 99), box(0, 0, 99, 99), box(0, 0, 99, 99));
        due("29 greatest areas", tree.area(0), 20000);
        due("30 greatest overlap", tree.overlap(0), 10000);
    }

    private static void fill() {
        due("31 no entries", new RectangleTree().fill(), 0);
        due("31 a quarter", with(4, 1, at(1, 1)).fill(), 0.25);
        due("31 a third", with(3, 1, at(1, 1)).fill(), 1f / 3);
        due("31 a fifth", with(5, 1, at(1, 1)).fill(), 1f / 5);
        due("31 full", with(3, 1, onLine(1, 2, 3)).fill(), 1);
        due("31 seven nodes", threeLevels().fill(), 14f / 21);
        RectangleTree tree = threeLevels();
        tree.setSetting(RectangleTree.CAPACITY, 5);
        due("31 by the capacity of now", tree.fill(), 14f / 35);
    }
}
