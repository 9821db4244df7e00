import java.util.List;

/** Compares everything that the queries tell of a tree with what the reference tells. */
final class Compare {
    private Compare() {
    }

    static void all(Check check, String when, RectangleTree tree, Reference due) {
        List<Reference.Item> list = due.nodeList();
        check.due(when, "boxes", 0, 0, tree.boxes(), due.boxes());
        check.due(when, "nodes", 0, 0, tree.nodes(), list.size());
        check.due(when, "height", 0, 0, tree.height(), due.height());
        check.due(when, "splits", 0, 0, tree.splits(), due.now.splits);
        check.due(when, "reinsertions", 0, 0, tree.reinsertions(), due.now.reinsertions);
        check.due(when, "setting", 0, 0, tree.setting(0), due.setting(0));
        check.due(when, "setting", 1, 0, tree.setting(1), due.setting(1));
        check.due(when, "fill", 0, 0, tree.fill(), due.fill());
        check.due(when, "level", -1, 0, tree.level(-1), -1);
        check.due(when, "entries", list.size(), 0, tree.entries(list.size()), -1);
        for (int node = 0; node < list.size(); node++) {
            oneNode(check, when, tree, list, node);
        }
        boxes(check, when, tree, due, list);
    }

    private static void oneNode(Check check, String when, RectangleTree tree, List<Reference.Item> list, int node) {
        Reference.Item item = list.get(node);
        check.due(when, "level", node, 0, tree.level(node), item.level);
        check.due(when, "entries", node, 0, tree.entries(node), item.list.size());
        for (int place = 0; place < item.list.size(); place++) {
            Reference.Item entry = item.list.get(place);
            check.due(when, "entry", node, place, tree.entry(node, place),
                entry.isBox() ? entry.number : list.indexOf(entry));
        }
        int[] bound = item.rectangle();
        for (int side = 0; side < 4; side++) {
            check.due(when, "bound", node, side, tree.bound(node, side), bound == null ? -5 : bound[side]);
        }
    }

    private static void boxes(Check check, String when, RectangleTree tree, Reference due, List<Reference.Item> list) {
        int mask = 0;
        for (int node = 0; node < list.size(); node++) {
            for (Reference.Item entry : list.get(node).list) {
                if (entry.isBox()) {
                    int box = entry.number;
                    mask |= 1 << box;
                    check.due(when, "leafOf", box, 0, tree.leafOf(box), node);
                    for (int side = 0; side < 4; side++) {
                        check.due(when, "side", box, side, tree.side(box, side), entry.corners[side]);
                    }
                }
            }
        }
        for (int box = -1; box <= 32; box++) {
            if (box < 0 || box > 23 || (mask >> box & 1) == 0) {
                check.due(when, "leafOf", box, 0, tree.leafOf(box), -1);
                check.due(when, "side", box, 0, tree.side(box, 0), -1);
            }
        }
    }

    /** The measures, which the reference counts point by point. */
    static void measures(Check check, String when, RectangleTree tree, Reference due) {
        for (int level = -1; level <= due.height() + 1; level++) {
            check.due(when, "area", level, 0, tree.area(level), due.area(level));
            check.due(when, "overlap", level, 0, tree.overlap(level), due.overlap(level));
        }
    }
}
