/** Long runs of mixed calls, with fixed seeds, on the program and on the reference side by side. */
public final class RandomRunsTest {
    private static final int RUNS = 240;
    private static final int CALLS = 330;

    private final Check check;
    private final RectangleTree tree = new RectangleTree();
    private final Reference due = new Reference();
    private final String name;
    private long seed;
    private final int spread;
    private final int growth;

    private RandomRunsTest(Check check, int run) {
        this.check = check;
        name = "run " + run;
        seed = run * 7919L + 17;
        spread = new int[] {100, 100, 12, 5, 2}[run % 5];
        growth = new int[] {50, 62, 75, 90}[run / 5 % 4];
    }

    public static void main(String[] args) {
        Check check = new Check();
        for (int run = 0; run < RUNS; run++) {
            RandomRunsTest test = new RandomRunsTest(check, run);
            for (int call = 0; call < CALLS && check.wrong == 0; call++) {
                test.step(call);
            }
        }
        check.end("RandomRunsTest");
    }

    private int below(int bound) {
        seed = seed * 6364136223846793005L + 1442695040888963407L;
        return (int) ((seed >>> 33) % bound);
    }

    private void step(int call) {
        int kind = below(100);
        if (kind < 70) {
            changeBoxes(call);
        } else if (kind < 78) {
            changeSettings(call);
        } else if (kind < 90) {
            useHistory(call);
        } else {
            useText(call);
        }
        Compare.all(check, name, tree, due);
        if (call % 4 == 0) {
            Compare.measures(check, name, tree, due);
            window(call);
        }
    }

    private void same(int call, String what, int got, int want) {
        check.due(name + ", call " + call + ": " + what, got, want);
    }

    private void changeBoxes(int call) {
        if (below(100) < growth) {
            int x1 = below(spread);
            int y1 = below(spread);
            int x2 = below(40) == 0 ? below(102) - 1 : x1 + below(Math.min(spread, 100 - x1));
            int y2 = below(40) == 0 ? below(102) - 1 : y1 + below(Math.min(spread, 100 - y1));
            same(call, "insert(" + x1 + ", " + y1 + ", " + x2 + ", " + y2 + ")",
                tree.insert(x1, y1, x2, y2), due.insert(x1, y1, x2, y2));
        } else {
            int box = below(26) - 1;
            same(call, "remove(" + box + ")", tree.remove(box), due.remove(box));
        }
    }

    private void changeSettings(int call) {
        int setting = below(10) == 0 ? below(5) - 2 : below(2);
        int value = setting == 0 ? 3 + below(3) : below(2);
        if (below(10) == 0) {
            value = below(9) - 2;
        }
        same(call, "setSetting(" + setting + ", " + value + ")",
            tree.setSetting(setting, value), due.setSetting(setting, value));
    }

    private void useHistory(int call) {
        switch (below(8)) {
            case 0:
                same(call, "pack()", tree.pack(), due.pack());
                break;
            case 1:
                same(call, "save()", tree.save(), due.save());
                break;
            case 2:
                same(call, "restore()", tree.restore(), due.restore());
                break;
            default:
                same(call, "undo()", tree.undo(), due.undo());
                break;
        }
    }

    private void useText(int call) {
        if (below(4) == 0) {
            same(call, "clearText()", tree.clearText(), due.clearText());
        }
        int count = 1 + below(4);
        for (int i = 0; i < count; i++) {
            if (i > 0 || due.text.length() > 0 && due.fault() == -5) {
                write(call, ";");
            }
            int x1 = below(spread);
            int y1 = below(spread);
            write(call, x1 + "," + y1 + "," + (x1 + below(100 - x1)) + "," + (y1 + below(100 - y1)));
        }
        if (below(6) == 0) {
            write(call, "" + (char) (32 + below(95)));
        }
        same(call, "fault()", tree.fault(), due.fault());
        same(call, "read()", tree.read(), due.read());
    }

    private void write(int call, String more) {
        for (int i = 0; i < more.length(); i++) {
            same(call, "append(" + (int) more.charAt(i) + ")", tree.append(more.charAt(i)), due.append(more.charAt(i)));
        }
    }

    private void window(int call) {
        int x1 = below(101);
        int y1 = below(101);
        int x2 = x1 + below(20) - 1;
        int y2 = y1 + below(20) - 1;
        same(call, "meeting", tree.meeting(x1, y1, x2, y2), due.meeting(x1, y1, x2, y2));
        same(call, "inside", tree.inside(x1 / 2, y1 / 2, x2, y2), due.inside(x1 / 2, y1 / 2, x2, y2));
        same(call, "visits", tree.visits(x1, y1, x2, y2), due.visits(x1, y1, x2, y2));
        if (call % 16 == 0) {
            same(call, "nearest", tree.nearest(x1, y1), due.nearest(x1, y1));
        }
    }
}
