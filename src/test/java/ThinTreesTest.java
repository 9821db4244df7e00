/** Trees of many nodes with few entries: at a capacity of 3, removals leave high branches of one box each. */
public final class ThinTreesTest {
    private static final int CALLS = 500;

    private final Check check;
    private final RectangleTree tree = new RectangleTree();
    private final Reference due = new Reference();
    private final String name;
    private long seed;
    private int mostNodes = 0;

    private ThinTreesTest(Check check, int run) {
        this.check = check;
        name = "thin run " + run;
        seed = run * 7919L + 17;
        tree.setSetting(0, 3);
        due.setSetting(0, 3);
        tree.setSetting(1, 0);
        due.setSetting(1, 0);
    }

    public static void main(String[] args) {
        Check check = new Check();
        for (int run : new int[] {364, 20, 21, 22}) {
            ThinTreesTest test = new ThinTreesTest(check, run);
            for (int call = 0; call < CALLS && check.wrong == 0; call++) {
                test.step(call);
            }
            if (run == 364) {
                check.due("nodes of the thinnest tree", test.mostNodes, 133);
            }
        }
        check.end("ThinTreesTest");
    }

    private int below(int bound) {
        seed = seed * 6364136223846793005L + 1442695040888963407L;
        return (int) ((seed >>> 33) % bound);
    }

    private void step(int call) {
        if (below(100) < 52) {
            int x = below(12);
            int y = below(12);
            int x2 = x + below(100 - x);
            int y2 = y + below(100 - y);
            check.due(name, "insert", call, 0, tree.insert(x, y, x2, y2), due.insert(x, y, x2, y2));
        } else {
            int box = below(24);
            check.due(name, "remove", call, box, tree.remove(box), due.remove(box));
        }
        Compare.all(check, name, tree, due);
        if (due.nodes() > mostNodes) {
            mostNodes = due.nodes();
            goAwayAndComeBack(call);
        }
    }

    /** The snapshot, the history and the packed tree must all have room for the many nodes, or for few again. */
    private void goAwayAndComeBack(int call) {
        check.due(name, "save", call, 0, tree.save(), due.save());
        check.due(name, "pack", call, 0, tree.pack(), due.pack());
        Compare.all(check, name, tree, due);
        check.due(name, "undo", call, 0, tree.undo(), due.undo());
        Compare.all(check, name, tree, due);
        check.due(name, "setSetting", call, 0, tree.setSetting(0, 4), due.setSetting(0, 4));
        for (int box = 0; box < 24; box += 3) {
            check.due(name, "remove", call, box, tree.remove(box), due.remove(box));
            Compare.all(check, name, tree, due);
        }
        check.due(name, "restore", call, 0, tree.restore(), due.restore());
        Compare.all(check, name, tree, due);
        Compare.measures(check, name, tree, due);
    }
}
