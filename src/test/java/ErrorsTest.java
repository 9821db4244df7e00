/**
 * Every error code of every method: the least and the greatest argument of each range and those just beyond it, the
 * order in which the codes are checked, and that a call with an error code changes nothing.
 */
public final class ErrorsTest extends Trees {
    private static final int NO_SUCH = RectangleTree.NO_SUCH;
    private static final int BAD_VALUE = RectangleTree.BAD_VALUE;
    private static final int TOO_MANY = RectangleTree.TOO_MANY;
    private static final int NOT_POSSIBLE = RectangleTree.NOT_POSSIBLE;
    private static final int NONE = RectangleTree.NONE;
    /** Values beyond each range of the document: just beyond, and far beyond. */
    private static final int[] OUTSIDE = {-1, 100, LOW, LOW + 1, HIGH, HIGH - 1};

    private interface Start {
        RectangleTree make();
    }

    private interface Call {
        double ask(RectangleTree tree);
    }

    private ErrorsTest() {
    }

    public static void main(String[] args) {
        Start[] starts = {RectangleTree::new, ErrorsTest::few, ErrorsTest::full};
        for (Start start : starts) {
            windows(start);
            insertCorners(start);
            points(start);
            boxNumbers(start);
            settings(start);
            characters(start);
            nodeNumbers(start);
            levels(start);
            queriesChangeNothing(start);
        }
        insertTooMany();
        appendTooMany();
        readErrors();
        nothingToRestore();
        orderOfTheCodes();
        end("ErrorsTest");
    }

    // ---- the objects that are asked

    /** Two levels, other settings, a text with a fault, a snapshot and a full history. */
    private static RectangleTree few() {
        RectangleTree tree = with(3, 0, onLine(1, 2, 80, 90, 3, 4));
        tree.remove(1);
        tree.save();
        tree.insert(7, 8, 9, 10);
        tree.setSetting(RectangleTree.REINSERT, 1);
        write(tree, "1,2,3,4;50,6,4,7");
        return tree;
    }

    /** 24 boxes, a complete list as the text, a snapshot and a full history. */
    private static RectangleTree full() {
        RectangleTree tree = new RectangleTree();
        tree.insert(0, 0, 99, 99);
        tree.save();
        for (int i = 1; i < 24; i++) {
            tree.insert(i * 7 % 50, i * 11 % 50, 50 + i, 60 + i);
        }
        write(tree, "1,2,3,4");
        return tree;
    }

    // ---- what can be asked of an object

    /** All that can be asked of the object from here on: its state, its history, its snapshot and its text. */
    private static String story(RectangleTree tree) {
        StringBuilder all = new StringBuilder();
        tell(tree, all);
        all.append(" fault ").append(tree.fault());
        int left = tree.undo();
        while (left != NONE) {
            all.append("\nundo ").append(left);
            tell(tree, all);
            left = tree.undo();
        }
        all.append("\nrestore ").append(tree.restore());
        tell(tree, all);
        all.append("\nread ").append(tree.read());
        tell(tree, all);
        all.append("\nundo ").append(tree.undo()).append(tree.undo());
        all.append("\ntext ").append(tree.clearText());
        return all.toString();
    }

    private static void tell(RectangleTree tree, StringBuilder all) {
        all.append(' ').append(shape(tree, 0));
        all.append(' ').append(tree.setting(0)).append(' ').append(tree.setting(1));
        all.append(' ').append(tree.splits()).append(' ').append(tree.reinsertions());
        all.append(' ').append(tree.boxes()).append(' ').append(tree.nodes()).append(' ').append(tree.height());
        for (int box = 0; box < 24; box++) {
            for (int side = 0; side < 4; side++) {
                all.append(' ').append(tree.side(box, side));
            }
            all.append(' ').append(tree.leafOf(box));
        }
        for (int node = 0; node < tree.nodes(); node++) {
            for (int side = 0; side < 4; side++) {
                all.append(' ').append(tree.bound(node, side));
            }
            all.append(' ').append(tree.level(node)).append(' ').append(tree.entries(node));
        }
    }

    /** The call answers this code, and afterwards the object is as if the call had not been made. */
    private static void refused(String what, Start start, Call call, int code) {
        RectangleTree tree = start.make();
        due(what, call.ask(tree), code);
        unchanged(what, start, tree);
    }

    private static void unchanged(String what, Start start, RectangleTree tree) {
        String want = story(start.make());
        String got = story(tree);
        due(what + " changes nothing", got.equals(want) ? 0 : 1, 0);
    }

    private static void taken(String what, Start start, Call call) {
        double answer = call.ask(start.make());
        due(what + " is no error", answer >= 0 || answer == NONE ? 0 : 1, 0);
    }

    // ---- the ranges of the arguments

    private static void windows(Start start) {
        for (int[] b : badRectangles()) {
            String corners = "(" + b[0] + ", " + b[1] + ", " + b[2] + ", " + b[3] + ")";
            refused("25 meeting" + corners, start, t -> t.meeting(b[0], b[1], b[2], b[3]), BAD_VALUE);
            refused("26 inside" + corners, start, t -> t.inside(b[0], b[1], b[2], b[3]), BAD_VALUE);
            refused("27 visits" + corners, start, t -> t.visits(b[0], b[1], b[2], b[3]), BAD_VALUE);
        }
        for (int[] b : goodRectangles()) {
            String corners = "(" + b[0] + ", " + b[1] + ", " + b[2] + ", " + b[3] + ")";
            taken("25 meeting" + corners, start, t -> t.meeting(b[0], b[1], b[2], b[3]));
            taken("26 inside" + corners, start, t -> t.inside(b[0], b[1], b[2], b[3]));
            taken("27 visits" + corners, start, t -> t.visits(b[0], b[1], b[2], b[3]));
        }
    }

    private static void insertCorners(Start start) {
        for (int[] b : badRectangles()) {
            String corners = "(" + b[0] + ", " + b[1] + ", " + b[2] + ", " + b[3] + ")";
            refused("2 insert" + corners, start, t -> t.insert(b[0], b[1], b[2], b[3]), BAD_VALUE);
        }
        for (int[] b : goodRectangles()) {
            RectangleTree tree = start.make();
            tree.remove(0);
            due("2 the least number is free again", tree.insert(b[0], b[1], b[2], b[3]), 0);
            for (int side = 0; side < 4; side++) {
                due("2 a corner at the edge", tree.side(0, side), b[side]);
            }
        }
    }

    /** Each corner out of range by itself, and each pair in the wrong order. */
    private static int[][] badRectangles() {
        int[][] all = new int[4 * OUTSIDE.length + BAD_RECTANGLES.length + 4][];
        int count = 0;
        for (int side = 0; side < 4; side++) {
            for (int value : OUTSIDE) {
                all[count] = box(50, 50, 50, 50);
                all[count][side] = value;
                count++;
            }
        }
        for (int[] bad : BAD_RECTANGLES) {
            all[count] = bad;
            count++;
        }
        all[count] = box(1, 0, 0, 0);
        all[count + 1] = box(0, 1, 0, 0);
        all[count + 2] = box(99, 99, 98, 99);
        all[count + 3] = box(99, 99, 99, 98);
        return all;
    }

    private static int[][] goodRectangles() {
        return new int[][] {at(0, 0), at(99, 99), at(0, 99), at(99, 0), box(0, 0, 99, 99), box(0, 5, 99, 5),
            box(5, 0, 5, 99), box(98, 98, 99, 99), box(0, 0, 1, 1)};
    }

    private static void points(Start start) {
        for (int value : OUTSIDE) {
            refused("28 nearest(" + value + ", 0)", start, t -> t.nearest(value, 0), BAD_VALUE);
            refused("28 nearest(0, " + value + ")", start, t -> t.nearest(0, value), BAD_VALUE);
            refused("28 nearest of twice " + value, start, t -> t.nearest(value, value), BAD_VALUE);
        }
        taken("28 nearest(0, 0)", start, t -> t.nearest(0, 0));
        taken("28 nearest(99, 99)", start, t -> t.nearest(99, 99));
        taken("28 nearest(0, 99)", start, t -> t.nearest(0, 99));
    }

    private static void boxNumbers(Start start) {
        int boxes = start.make().boxes();
        for (int box : new int[] {LOW, -24, -1, 24, 25, 31, 32, 33, 64, HIGH}) {
            noSuchBox(start, box);
        }
        for (int box = 0; box < 24; box++) {
            if ((boxes >> box & 1) == 0) {
                noSuchBox(start, box);
                continue;
            }
            int number = box;
            taken("3 remove(" + box + ")", start, t -> t.remove(number));
            taken("21 leafOf(" + box + ")", start, t -> t.leafOf(number));
            for (int side : new int[] {LOW, -1, 4, HIGH}) {
                refused("14 side(" + box + ", " + side + ")", start, t -> t.side(number, side), BAD_VALUE);
            }
            for (int side = 0; side < 4; side++) {
                int each = side;
                taken("14 side(" + box + ", " + side + ")", start, t -> t.side(number, each));
            }
        }
    }

    private static void noSuchBox(Start start, int box) {
        refused("3 remove(" + box + ")", start, t -> t.remove(box), NO_SUCH);
        refused("21 leafOf(" + box + ")", start, t -> t.leafOf(box), NO_SUCH);
        for (int side : new int[] {LOW, -1, 0, 3, 4, HIGH}) {
            refused("14 side(" + box + ", " + side + ")", start, t -> t.side(box, side), NO_SUCH);
        }
    }

    private static void settings(Start start) {
        for (int setting : new int[] {LOW, -1, 2, 3, HIGH}) {
            refused("22 setting(" + setting + ")", start, t -> t.setting(setting), NO_SUCH);
            for (int value : new int[] {LOW, -1, 0, 1, 3, 4, 5, HIGH}) {
                refused("5 setSetting(" + setting + ", " + value + ")", start,
                    t -> t.setSetting(setting, value), NO_SUCH);
            }
        }
        for (int value : new int[] {LOW, -1, 0, 1, 2, 6, 7, HIGH}) {
            refused("5 CAPACITY " + value, start, t -> t.setSetting(RectangleTree.CAPACITY, value), BAD_VALUE);
        }
        for (int value : new int[] {LOW, -1, 2, 3, 4, 5, HIGH}) {
            refused("5 REINSERT " + value, start, t -> t.setSetting(RectangleTree.REINSERT, value), BAD_VALUE);
        }
        for (int value = 3; value <= 5; value++) {
            RectangleTree tree = start.make();
            due("5 previous CAPACITY", tree.setSetting(0, value), start.make().setting(0));
            due("5 new CAPACITY", tree.setting(0), value);
        }
        for (int value = 0; value <= 1; value++) {
            RectangleTree tree = start.make();
            due("5 previous REINSERT", tree.setSetting(1, value), start.make().setting(1));
            due("5 new REINSERT", tree.setting(1), value);
        }
    }

    private static void characters(Start start) {
        for (int character : new int[] {LOW, -1, 0, 9, 10, 31, 127, 128, 256 + '1', 65536 + '1', HIGH}) {
            refused("6 append(" + character + ")", start, t -> t.append(character), BAD_VALUE);
        }
        for (int character = 32; character <= 126; character++) {
            RectangleTree tree = start.make();
            int length = start.make().clearText();
            due("6 append(" + character + ")", tree.append(character), length + 1);
        }
    }

    private static void nodeNumbers(Start start) {
        int nodes = start.make().nodes();
        for (int node : new int[] {LOW, -1, nodes, nodes + 1, 24, 156, 157, HIGH}) {
            refused("17 level(" + node + ")", start, t -> t.level(node), NO_SUCH);
            refused("18 entries(" + node + ")", start, t -> t.entries(node), NO_SUCH);
            for (int second : new int[] {LOW, -1, 0, 3, 4, HIGH}) {
                refused("19 entry(" + node + ", " + second + ")", start, t -> t.entry(node, second), NO_SUCH);
                refused("20 bound(" + node + ", " + second + ")", start, t -> t.bound(node, second), NO_SUCH);
            }
        }
        for (int each = 0; each < nodes; each++) {
            int node = each;
            int size = start.make().entries(node);
            taken("17 level(" + node + ")", start, t -> t.level(node));
            for (int place : new int[] {LOW, -1, size, size + 1, 5, 6, HIGH}) {
                refused("19 entry(" + node + ", " + place + ")", start, t -> t.entry(node, place), NO_SUCH);
            }
            for (int side : new int[] {LOW, -1, 4, HIGH}) {
                refused("20 bound(" + node + ", " + side + ")", start, t -> t.bound(node, side), BAD_VALUE);
            }
            if (size > 0) {
                taken("19 entry(" + node + ", 0)", start, t -> t.entry(node, 0));
                taken("19 the last entry of " + node, start, t -> t.entry(node, size - 1));
            }
        }
    }

    private static void levels(Start start) {
        int height = start.make().height();
        for (int level : new int[] {LOW, -1, height + 1, height + 2, HIGH}) {
            refused("29 area(" + level + ")", start, t -> t.area(level), NO_SUCH);
            refused("30 overlap(" + level + ")", start, t -> t.overlap(level), NO_SUCH);
        }
        for (int each = 0; each <= height; each++) {
            int level = each;
            taken("29 area(" + level + ")", start, t -> t.area(level));
            taken("30 overlap(" + level + ")", start, t -> t.overlap(level));
        }
    }

    /** "Queries about boxes and nodes; they change nothing": nor do fault and save, which are no actions. */
    private static void queriesChangeNothing(Start start) {
        RectangleTree tree = start.make();
        tell(tree, new StringBuilder());
        for (int level = 0; level <= tree.height(); level++) {
            tree.area(level);
            tree.overlap(level);
        }
        tree.meeting(0, 0, 50, 50);
        tree.inside(0, 0, 50, 50);
        tree.visits(0, 0, 50, 50);
        tree.nearest(50, 50);
        tree.fill();
        tree.fault();
        tree.fault();
        for (int node = 0; node < tree.nodes(); node++) {
            tree.entry(node, 0);
        }
        unchanged("13 to 31: a query", start, tree);
    }

    // ---- no more room

    private static void insertTooMany() {
        due("2 the object is full", full().boxes(), 0xFFFFFF);
        refused("2 insert with 24 boxes", ErrorsTest::full, t -> t.insert(1, 1, 2, 2), TOO_MANY);
        refused("2 insert of the whole plane with 24 boxes", ErrorsTest::full, t -> t.insert(0, 0, 99, 99), TOO_MANY);
        RectangleTree tree = full();
        tree.remove(23);
        due("2 insert with 23 boxes", tree.insert(1, 1, 2, 2), 23);
        due("2 and then there are 24 again", tree.insert(1, 1, 2, 2), TOO_MANY);
    }

    private static RectangleTree longText(int length) {
        RectangleTree tree = few();
        tree.clearText();
        for (int i = 0; i < length; i++) {
            tree.append("1,2,3,4;".charAt(i % 8));
        }
        return tree;
    }

    private static void appendTooMany() {
        for (int character : new int[] {32, ';', '1', 126}) {
            refused("6 append behind 80 characters", () -> longText(80), t -> t.append(character), TOO_MANY);
        }
        due("6 append behind 79 characters", longText(79).append('1'), 80);
    }

    private static void readErrors() {
        refused("9 read of the empty text", RectangleTree::new, RectangleTree::read, -100);
        refused("9 read of a text with a fault in it", ErrorsTest::few, RectangleTree::read, -113);
        refused("9 read of a text that is no list yet", () -> longText(7 + 8 + 1), RectangleTree::read, -116);
        refused("9 read of 80 characters that end too early", () -> longText(80), RectangleTree::read, -180);
        refused("9 read with 24 boxes", ErrorsTest::full, RectangleTree::read, TOO_MANY);
        for (int boxes = 20; boxes <= 24; boxes++) {
            int count = boxes;
            Start start = () -> manyBoxes(count, "1,2,3,4;5,6,7,8");
            if (boxes + 2 > 24) {
                refused("9 two boxes more than " + boxes, start, RectangleTree::read, TOO_MANY);
            } else {
                due("9 two boxes more than " + boxes, start.make().read(), 2);
            }
        }
    }

    private static RectangleTree manyBoxes(int count, String text) {
        RectangleTree tree = new RectangleTree();
        for (int i = 0; i < count; i++) {
            tree.insert(i, i, 2 * i, 3 * i);
        }
        write(tree, text);
        return tree;
    }

    // ---- calls that are not possible, and the order of the codes

    private static void nothingToRestore() {
        refused("12 restore of a new object", RectangleTree::new, RectangleTree::restore, NOT_POSSIBLE);
        refused("12 restore without a snapshot", () -> manyBoxes(6, "1,"), RectangleTree::restore, NOT_POSSIBLE);
        refused("10 undo of a new object", RectangleTree::new, RectangleTree::undo, NONE);
        refused("20 bound of a node without entries", RectangleTree::new, t -> t.bound(0, 0), NONE);
        refused("28 nearest without boxes", RectangleTree::new, t -> t.nearest(0, 0), NONE);
    }

    private static void orderOfTheCodes() {
        refused("2 BAD_VALUE ahead of TOO_MANY", ErrorsTest::full, t -> t.insert(0, 0, 100, 0), BAD_VALUE);
        refused("5 NO_SUCH ahead of BAD_VALUE", ErrorsTest::few, t -> t.setSetting(2, 6), NO_SUCH);
        refused("6 BAD_VALUE ahead of TOO_MANY", () -> longText(80), t -> t.append(127), BAD_VALUE);
        refused("6 BAD_VALUE ahead of TOO_MANY", () -> longText(80), t -> t.append(31), BAD_VALUE);
        refused("9 the fault ahead of TOO_MANY", () -> manyBoxes(24, "1,2,3"), RectangleTree::read, -105);
        refused("9 the fault ahead of TOO_MANY", () -> manyBoxes(24, ""), RectangleTree::read, -100);
        refused("14 NO_SUCH ahead of BAD_VALUE", ErrorsTest::few, t -> t.side(6, 4), NO_SUCH);
        refused("20 NO_SUCH ahead of BAD_VALUE", RectangleTree::new, t -> t.bound(1, 4), NO_SUCH);
        refused("20 BAD_VALUE ahead of NONE", RectangleTree::new, t -> t.bound(0, 4), BAD_VALUE);
        refused("20 BAD_VALUE ahead of NONE", RectangleTree::new, t -> t.bound(0, -1), BAD_VALUE);
        refused("28 BAD_VALUE ahead of NONE", RectangleTree::new, t -> t.nearest(100, 0), BAD_VALUE);
        refused("28 BAD_VALUE ahead of NONE", RectangleTree::new, t -> t.nearest(0, -1), BAD_VALUE);
    }
}
