/** Each choice that the document decides: by which measure, and which one of several with the same. */
public final class TiesTest extends Trees {
    private TiesTest() {
    }

    public static void main(String[] args) {
        descendByEnlargement();
        descendByArea();
        descendToTheFirst();
        farthestIsTheLast();
        farthestBySquares();
        farthestByDoubleCenters();
        farthestFromTheWholeBound();
        oneReinsertionALevel();
        reinsertionsOnTwoLevels();
        ownInsertions();
        seedsByArea();
        seedsOfSeveralPairs();
        nextByDifference();
        nextOfSeveral();
        groupByEnlargement();
        groupByArea();
        groupByNumberOfEntries();
        groupIsTheFirst();
        restToASmallGroup();
        newNodeBehindTheOldOne();
        keptLowerNodesFirst();
        keptBoxesInPreorder();
        packByX();
        packByY();
        nearestOfSeveral();
        leastFreeNumber();
        end("TiesTest");
    }

    // ---- the way down

    private static void descendByEnlargement() {
        RectangleTree tree = packed(3, 5, 0, box(0, 0, 50, 50), box(0, 0, 50, 50), box(0, 0, 50, 50), at(60, 60));
        shapeDue("2 a great leaf and a small one", tree, "((0 1 2) (3))");
        add(tree, at(50, 50));
        shapeDue("2 no enlargement ahead of the lesser area", tree, "((0 1 2 4) (3))");
        // 30 - 10 = 20 points more for the high leaf, 22 - 1 = 21 for the other one: the points are counted exactly.
        tree = packed(3, 5, 0, box(0, 0, 0, 9), box(0, 0, 0, 9), box(0, 0, 0, 9), at(23, 5));
        add(tree, at(2, 5));
        shapeDue("2 one point of enlargement less, in x", tree, "((0 1 2 4) (3))");
        tree = packed(3, 5, 0, box(0, 0, 9, 0), box(0, 0, 9, 0), box(0, 0, 9, 0), at(5, 23));
        add(tree, at(5, 2));
        shapeDue("2 one point of enlargement less, in y", tree, "((0 1 2 4) (3))");
        tree = packed(3, 5, 0, box(0, 0, 0, 9), box(0, 0, 0, 9), box(0, 0, 0, 9), at(21, 5));
        add(tree, at(2, 5));
        shapeDue("2 one point of enlargement more", tree, "((0 1 2) (3 4))");
    }

    private static void descendByArea() {
        RectangleTree tree = packed(3, 5, 0, box(0, 0, 50, 50), box(0, 0, 50, 50), box(0, 0, 50, 50),
            box(40, 40, 60, 60));
        add(tree, at(45, 45));
        shapeDue("2 of several without enlargement, the least area", tree, "((0 1 2) (3 4))");
        tree = packed(3, 5, 0, box(40, 40, 60, 60), box(40, 40, 60, 60), box(40, 40, 60, 60), box(0, 2, 99, 99));
        add(tree, at(45, 45));
        shapeDue("2 the least area, which comes first", tree, "((0 1 2 4) (3))");
        // Ten points more for each of the leaves 0..1 and 21..21.
        tree = packed(3, 5, 0, at(0, 0), at(0, 0), at(0, 0), box(0, 50, 1, 50), box(0, 50, 1, 50), box(0, 50, 1, 50),
            at(21, 50));
        shapeDue("2 three leaves", tree, "((0 1 2) (3 4 5) (6))");
        add(tree, at(11, 50));
        shapeDue("2 of several with the same enlargement, the least area", tree, "((0 1 2) (3 4 5) (6 7))");
    }

    private static void descendToTheFirst() {
        RectangleTree tree = packed(3, 5, 0, same(4, box(0, 0, 50, 50)));
        add(tree, at(7, 7));
        shapeDue("2 of several without enlargement and with the same area, the first", tree, "((0 1 2 4) (3))");
        tree = packed(3, 5, 0, at(0, 0), at(0, 0), at(0, 0), at(0, 50), at(0, 50), at(0, 50), at(20, 50));
        add(tree, at(10, 50));
        shapeDue("2 of several with the same enlargement and area, the first", tree, "((0 1 2) (3 4 5 7) (6))");
    }

    // ---- reinsertion

    private static void farthestIsTheLast() {
        // The leaf spans 0..20; box 0 and box 2 are the farthest, and box 2 is the last one of them in the list.
        RectangleTree tree = packed(3, 3, 1, onLine(0, 10, 20, 22, 24));
        shapeDue("2 a full leaf and another one", tree, "((0 1 2) (3 4))");
        add(tree, onLine(1));
        shapeDue("2 of several as far, the last in the list", tree, "((0 1 5) (3 4 2))");
        due("2 one reinsertion", tree.reinsertions(), 1);
        due("2 no split", tree.splits(), 0);
        // The same with the far ones in the other order: box 2 at 0 returns to its leaf, which is split then.
        tree = packed(3, 3, 1, onLine(20, 10, 0, 22, 24));
        add(tree, onLine(1));
        shapeDue("2 the last in the list, not the greatest", tree, "((0) (2 5 1) (3 4))");
        due("2 one reinsertion", tree.reinsertions(), 1);
        due("2 one split", tree.splits(), 1);
    }

    private static void farthestBySquares() {
        // From the center (50, 50), doubled: box 1 lies 20 and 0 away, box 2 14 and 14: 400 against 392.
        RectangleTree tree = packed(3, 3, 1, box(40, 40, 60, 60), at(60, 50), at(43, 43), box(60, 50, 70, 50));
        shapeDue("2 before the squares", tree, "((2 0 1) (3))");
        add(tree, at(50, 50));
        shapeDue("2 squares, not the sum of the ways", tree, "((2 0 4) (3 1))");
        due("2 one reinsertion", tree.reinsertions(), 1);
        due("2 no split", tree.splits(), 0);
        // Box 2 lies 16 and 16 away now: 512.
        tree = packed(3, 3, 1, box(40, 40, 60, 60), at(60, 50), at(42, 42), box(30, 42, 42, 70));
        shapeDue("2 before the sum of squares", tree, "((2 0 1) (3))");
        add(tree, at(50, 50));
        shapeDue("2 both squares, not the greater one", tree, "((0 1 4) (3 2))");
        due("2 no split", tree.splits(), 0);
        // And 14 and 15 away: 421 against 400.
        tree = packed(3, 3, 1, box(40, 40, 60, 60), at(60, 50), box(42, 43, 43, 43), box(30, 43, 43, 71));
        shapeDue("2 before the sum of two squares", tree, "((2 0 1) (3))");
        add(tree, at(50, 50));
        shapeDue("2 the square in x is added", tree, "((0 1 4) (3 2))");
    }

    private static void farthestByDoubleCenters() {
        // The doubled center is 101: box 1 (122) and box 2 (80) are as far from it, which halves would hide.
        RectangleTree tree = packed(3, 3, 1, box(40, 40, 61, 60), at(61, 50), at(40, 50), box(30, 50, 40, 50));
        shapeDue("2 before the halves in x", tree, "((0 1 2) (3))");
        add(tree, at(50, 50));
        shapeDue("2 halves of the center in x", tree, "((0 1 4) (3 2))");
        due("2 no split", tree.splits(), 0);
        // The same in y: the new box is as far as box 2 and comes last, so it is the one that goes, and returns.
        tree = packed(3, 3, 1, box(40, 40, 60, 61), at(50, 50), at(50, 61), box(50, 61, 50, 80));
        shapeDue("2 before the halves in y", tree, "((1 0 2) (3))");
        add(tree, at(50, 40));
        shapeDue("2 halves of the center in y", tree, "((2) (4 1 0) (3))");
        due("2 one reinsertion", tree.reinsertions(), 1);
        due("2 one split", tree.splits(), 1);
    }

    private static void farthestFromTheWholeBound() {
        // With the new box the bound is 5..30, and box 2 is the farthest; without it, the new box would be.
        RectangleTree tree = packed(3, 3, 1, box(10, 0, 30, 0), box(12, 0, 14, 0), box(28, 0, 30, 0),
            box(28, 0, 35, 2));
        shapeDue("2 before the whole bound in x", tree, "((0 1 2) (3))");
        add(tree, box(5, 0, 9, 0));
        shapeDue("2 the bound with all entries, in x", tree, "((0 1 4) (3 2))");
        due("2 no split", tree.splits(), 0);
        tree = packed(3, 3, 1, box(0, 10, 0, 30), box(0, 12, 0, 14), box(0, 28, 0, 30), box(0, 28, 2, 35));
        shapeDue("2 before the whole bound in y", tree, "((1 0 2) (3))");
        add(tree, box(0, 5, 0, 9));
        shapeDue("2 the bound with all entries, in y", tree, "((1 0 4) (3 2))");
        due("2 no split", tree.splits(), 0);
    }

    private static void oneReinsertionALevel() {
        // Box 2 is reinserted into the other full leaf: this one is split, because its level has been treated.
        RectangleTree tree = packed(3, 3, 1, onLine(0, 10, 20, 22, 24, 26));
        shapeDue("2 two full leaves", tree, "((0 1 2) (3 4 5))");
        int splits = tree.splits();
        add(tree, onLine(1));
        shapeDue("2 another node of the level", tree, "((0 1 6) (5 4) (2 3))");
        due("2 one reinsertion", tree.reinsertions(), 1);
        due("2 one split", tree.splits(), splits + 1);
        add(tree, onLine(2));
        due("2 the next own insertion may treat the level again", tree.reinsertions(), 2);
    }

    private static void reinsertionsOnTwoLevels() {
        RectangleTree tree = packed(3, 3, 1, at(0, 0), at(2, 0), at(4, 0), at(0, 10), at(2, 10), at(4, 10),
            at(60, 50), at(61, 50), at(62, 50), at(60, 60), at(61, 60), at(62, 60));
        shapeDue("2 three levels", tree, "(((0 1 2) (3 4 5) (6 7 8)) ((9 10 11)))");
        int splits = tree.splits();
        // Box 2 goes and comes back, the leaf is split, and of the four leaves above, (6 7 8) goes to the other node.
        add(tree, at(1, 0));
        shapeDue("2 a reinsertion on each level", tree, "(((0 12 1) (2) (3 4 5)) ((9 10 11) (6 7 8)))");
        due("2 two reinsertions", tree.reinsertions(), 2);
        due("2 one split", tree.splits(), splits + 1);
    }

    private static void ownInsertions() {
        RectangleTree tree = packed(3, 5, 1, onLine(0, 0, 0, 1, 1, 1, 47, 10, 11, 80));
        shapeDue("3 packed", tree, "(((0 1 2) (3 4 5) (6 7 8)) ((9)))");
        tree.setSetting(RectangleTree.CAPACITY, 3);
        removeAll(tree, 0, 1, 2);
        tree.setSetting(RectangleTree.CAPACITY, 5);
        add(tree, onLine(12, 13, 81, 82));
        tree.remove(3);
        shapeDue("3 before the removal", tree, "(((4 5) (6 7 8 0 1)) ((9 2 10)))");
        tree.setSetting(RectangleTree.CAPACITY, 4);
        int splits = tree.splits();
        tree.remove(4);
        // Box 0 makes 6 go to the leaf (10 2 9); and the next own insertion, that of box 1, may treat the level again.
        shapeDue("3 the boxes of a node one after the other", tree, "((10 2 9 6) (5 7) (1 0 8))");
        due("3 each is an own insertion", tree.reinsertions(), 2);
        due("3 two splits", tree.splits(), splits + 2);
    }

    // ---- splits

    private static void seedsByArea() {
        // The union of 0 and 1 is as great as that of 1 and 2: 1000 - 500 - 500 = 0 against 1000 - 500 - 50.
        RectangleTree tree = with(3, 0, box(0, 0, 49, 9), box(50, 0, 99, 9), box(0, 0, 49, 0), box(0, 0, 49, 9));
        shapeDue("2 the area of the second entry is subtracted", tree, "((1) (2 0 3))");
        // 1000 - 49 - 500 for the boxes 0 and 1, 1000 - 500 - 490 for the boxes 1 and 2.
        tree = with(3, 0, box(0, 0, 48, 0), box(50, 0, 99, 9), box(0, 0, 48, 9), box(0, 0, 48, 9));
        shapeDue("2 the area of the first entry is subtracted", tree, "((0 2 3) (1))");
        // Boxes that contain one another: the value is minus the area of the lesser one.
        tree = with(3, 0, box(0, 0, 9, 9), box(0, 0, 8, 8), box(0, 0, 7, 7), box(0, 0, 6, 6));
        shapeDue("2 the greatest of values below 0", tree, "((0 1 2) (3))");
    }

    private static void seedsOfSeveralPairs() {
        RectangleTree tree = with(3, 0, onLine(0, 10, 0, 10));
        shapeDue("2 of several pairs, the first one", tree, "((0 2) (1 3))");
        // (0, 3) and (1, 2) are the corners of the same square.
        tree = with(3, 0, at(0, 0), at(0, 9), at(9, 0), at(9, 9));
        shapeDue("2 of several pairs, the one whose first entry comes first", tree, "((0 1) (3 2))");
        tree = with(3, 0, onLine(0, 5, 10, 10));
        shapeDue("2 of these, the one whose second entry comes first", tree, "((0 1) (2 3))");
    }

    private static void nextByDifference() {
        // Box 4 needs 40 and 60 points more in the groups 0 and 90 and is taken last, when the other group needs it.
        RectangleTree tree = with(4, 0, onLine(0, 90, 10, 20, 30));
        shapeDue("2 the greatest difference, for the first group", tree, "((0 2 3) (1 4))");
        tree = with(4, 0, onLine(90, 0, 10, 20, 30));
        shapeDue("2 the greatest difference, for the second group", tree, "((0 4) (1 2 3))");
        tree = with(4, 0, onLine(0, 90, 30, 20, 10));
        shapeDue("2 the greatest difference, in another order", tree, "((0 4 3) (1 2))");
    }

    private static void nextOfSeveral() {
        // At first 2 and 3 differ as much, then 3 alone is left.
        RectangleTree tree = with(3, 0, onLine(0, 90, 80, 10));
        shapeDue("2 of several differences, the first", tree, "((0 3) (1 2))");
        // Both lie in the middle, and both go to the first group: the first in the list goes first.
        tree = with(3, 0, box(0, 0, 9, 9), box(21, 0, 30, 9), at(15, 5), at(15, 2));
        shapeDue("2 of several without a difference, the first", tree, "((0 2 3) (1))");
        tree = with(4, 0, onLine(0, 90, 20, 20, 20));
        shapeDue("2 of several with the same difference, the first ones", tree, "((0 2 3) (1 4))");
    }

    private static void groupByEnlargement() {
        RectangleTree tree = with(3, 0, onLine(0, 90, 44, 0));
        shapeDue("2 44 points more against 46", tree, "((0 3 2) (1))");
        tree = with(3, 0, onLine(0, 90, 46, 0));
        shapeDue("2 46 points more against 44", tree, "((0 3) (1 2))");
    }

    private static void groupByArea() {
        // 60 points more for both groups; areas of 100 and 50.
        RectangleTree tree = with(3, 0, box(0, 0, 9, 9), box(21, 0, 25, 9), at(15, 5), box(21, 0, 25, 9));
        shapeDue("2 the lesser area, though it has more entries", tree, "((0) (1 3 2))");
        tree = with(3, 0, box(0, 0, 4, 9), box(16, 0, 25, 9), at(10, 5), box(0, 0, 4, 9));
        shapeDue("2 the lesser area of the first group", tree, "((0 3 2) (1))");
    }

    private static void groupByNumberOfEntries() {
        RectangleTree tree = with(3, 0, box(0, 0, 9, 9), box(21, 0, 30, 9), at(15, 5), box(0, 0, 9, 9));
        shapeDue("2 fewer entries in the second group", tree, "((0 3) (1 2))");
        tree = with(3, 0, box(0, 0, 9, 9), box(21, 0, 30, 9), at(15, 5), box(21, 0, 30, 9));
        shapeDue("2 fewer entries in the first group", tree, "((0 2) (1 3))");
    }

    private static void groupIsTheFirst() {
        RectangleTree tree = with(3, 0, onLine(0, 20, 10, 10));
        shapeDue("2 nothing decides: the first group", tree, "((0 2 3) (1))");
        tree = with(3, 0, same(4, at(5, 5)));
        shapeDue("2 all the same: the groups take turns", tree, "((0 2) (1 3))");
        tree = with(5, 0, same(6, at(5, 5)));
        shapeDue("2 all the same, six boxes", tree, "((0 2 4) (1 3 5))");
    }

    private static void restToASmallGroup() {
        RectangleTree tree = with(3, 0, onLine(0, 1, 2, 99));
        shapeDue("2 MINIMUM of CAPACITY 3 is 1", tree, "((0 1 2) (3))");
        tree = with(4, 0, onLine(0, 1, 2, 3, 99));
        shapeDue("2 MINIMUM of CAPACITY 4 is 2, for the second group", tree, "((0 1 2) (4 3))");
        tree = with(4, 0, onLine(99, 0, 1, 2, 3));
        shapeDue("2 MINIMUM of CAPACITY 4 is 2, for the first group", tree, "((0 4) (1 2 3))");
        tree = with(5, 0, onLine(0, 1, 2, 3, 4, 99));
        shapeDue("2 MINIMUM of CAPACITY 5 is 2", tree, "((0 1 2 3) (5 4))");
        // Six entries at a lesser capacity: a leaf of five boxes, and one more.
        tree = with(5, 0, onLine(0, 1, 2, 3, 4));
        tree.setSetting(RectangleTree.CAPACITY, 4);
        add(tree, onLine(99));
        shapeDue("2 MINIMUM of the capacity of now, 4", tree, "((0 1 2 3) (5 4))");
        tree = with(5, 0, onLine(0, 1, 2, 3, 4));
        tree.setSetting(RectangleTree.CAPACITY, 3);
        add(tree, onLine(99));
        shapeDue("2 MINIMUM of the capacity of now, 3", tree, "((0 1 2 3 4) (5))");
    }

    private static void newNodeBehindTheOldOne() {
        RectangleTree tree = packed(3, 4, 0, at(0, 0), at(0, 0), at(0, 0), at(0, 50), at(4, 50), at(0, 50),
            at(90, 90));
        add(tree, at(4, 50), at(4, 50));
        shapeDue("2 directly behind, not at the end", tree, "((0 1 2) (3 5) (4 7 8) (6))");
    }

    // ---- removal

    private static void keptLowerNodesFirst() {
        RectangleTree tree = packed(3, 4, 0, onLine(0, 0, 0, 1, 1, 1, 40, 41, 42, 80));
        tree.setSetting(RectangleTree.CAPACITY, 3);
        removeAll(tree, 0, 1, 2);
        tree.setSetting(RectangleTree.CAPACITY, 4);
        tree.remove(3);
        shapeDue("3 two branches", tree, "(((4 5) (6 7 8)) ((9)))");
        add(tree, onLine(81, 82, 83));
        shapeDue("3 a full leaf in the other branch", tree, "(((4 5) (6 7 8)) ((9 0 1 2)))");
        tree.remove(4);
        // The root is the leaf (9 0 1 2) then: box 5 splits it, so that the leaf (6 7 8) can follow as a node.
        shapeDue("3 the box of the lower node first", tree, "((2 1 0) (5 9) (6 7 8))");
    }

    private static void keptBoxesInPreorder() {
        RectangleTree tree = with(3, 0, same(16, at(9, 9)));
        shapeDue("3 four levels", tree, "((((0 14) (10 13)) ((8 11) (2 5))) (((12 15) (6 9)) ((4 7) (1 3))))");
        removeAll(tree, 6, 9, 15, 4, 7, 1, 3, 10, 8, 5);
        shapeDue("3 thin branches", tree, "((((0 14) (13)) ((11) (2))) (((12))))");
        tree.setSetting(RectangleTree.CAPACITY, 5);
        due("3 boxes left", tree.remove(14), 5);
        // Kept aside are the box 0, the leaf (13) and the node ((11) (2)); the root is the leaf (12).
        shapeDue("3 in preorder, not by numbers", tree, "(12 0 13 11 2)");
        due("3 the root gave way three times", tree.height(), 0);
    }

    // ---- packing, nearest boxes, numbers

    private static void packByX() {
        RectangleTree tree = packed(3, 3, 1, onLine(9, 5, 5, 5, 5, 5, 5));
        shapeDue("4 the same x: by the numbers", tree, "((1 2 3) (4 5 6) (0))");
        tree = packed(3, 3, 1, onLine(5, 5, 5, 5, 5, 5, 5));
        shapeDue("4 all the same: by the numbers", tree, "((0 1 2) (3 4 5) (6))");
        // The centers of 0..12 and of 6..6 are the same, that of 6..7 is half a point more.
        tree = packed(3, 3, 1, box(6, 0, 7, 0), box(0, 0, 12, 0), at(6, 0), at(6, 0), at(6, 0), at(6, 0), at(6, 0));
        shapeDue("4 double centers in x", tree, "((1 2 3) (4 5 6) (0))");
        tree = with(3, 1, onLine(7, 7, 7, 7, 7, 7, 7, 7, 7));
        removeAll(tree, 0, 4);
        tree.pack();
        shapeDue("4 numbers with gaps", tree, "((1 2 3) (5 6 7) (8))");
    }

    private static void packByY() {
        RectangleTree tree = packed(3, 3, 1, at(3, 0), at(2, 0), at(1, 0), at(0, 0));
        shapeDue("4 the same y: by the numbers, not by x", tree, "((0 1 2) (3))");
        tree = packed(3, 3, 1, box(0, 6, 0, 7), box(0, 0, 0, 12), at(0, 6), at(0, 6));
        shapeDue("4 double centers in y", tree, "((1 2 3) (0))");
        // Two slices: the y of the other slice does not matter.
        tree = packed(3, 3, 1, at(0, 9), at(0, 8), at(0, 7), at(0, 6), at(0, 5), at(0, 4), at(1, 0));
        shapeDue("4 each slice by itself", tree, "((5 4 3) (2 1 0) (6))");
    }

    private static void nearestOfSeveral() {
        RectangleTree tree = with(3, 1, at(90, 90), at(20, 10), at(0, 10), at(10, 20), at(10, 0));
        due("28 of several as near, the lowest number", tree.nearest(10, 10), 1);
        tree.remove(1);
        due("28 the next one", tree.nearest(10, 10), 2);
        add(tree, at(16, 18));
        due("28 by the least square: 6 and 8 are as near as 10", tree.nearest(10, 10), 1);
        add(tree, at(13, 19));
        due("28 3 and 9 are nearer than 10", tree.nearest(10, 10), 5);
        // One point aside in one direction counts.
        tree = with(3, 1, at(11, 15), at(10, 15));
        due("28 right above", tree.nearest(10, 10), 1);
        tree = with(3, 1, at(15, 11), at(15, 10));
        due("28 right beside", tree.nearest(10, 10), 1);
        tree = with(3, 1, at(10, 11), box(0, 0, 10, 10));
        due("28 a box that contains the point", tree.nearest(10, 10), 1);
        tree = with(3, 1, box(20, 20, 30, 40), box(0, 0, 12, 9));
        due("28 the nearest point of a box", tree.nearest(15, 15), 1);
        due("28 of these as near, the lowest number", tree.nearest(16, 15), 0);
    }

    private static void leastFreeNumber() {
        RectangleTree tree = with(4, 1, same(24, at(5, 5)));
        removeAll(tree, 23, 0, 11);
        due("2 the least free number", tree.insert(6, 6, 6, 6), 0);
        due("2 the next one", tree.insert(7, 7, 7, 7), 11);
        due("2 the last one", tree.insert(8, 8, 8, 8), 23);
        removeAll(tree, 7, 3, 5);
        write(tree, "1,1,1,1;2,2,2,2;3,3,3,3");
        due("9 three boxes", tree.read(), 3);
        due("9 the first into the least free number", tree.side(3, 0), 1);
        due("9 the second one", tree.side(5, 0), 2);
        due("9 the third one", tree.side(7, 0), 3);
    }
}
