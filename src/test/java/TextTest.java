/** Promises 6 to 9 on many texts: every short one of a few signs, and longer ones with one sign changed. */
public final class TextTest {
    private static final String SIGNS = "0159,;";
    private static final Check CHECK = new Check();

    private TextTest() {
    }

    public static void main(String[] args) {
        String[] starts = {"", "5,1,", "50,15,5", "5,50,9,", "9,9,9", "0,0,0,0;5", "10,1,1", "1,10,1,1"};
        for (String start : starts) {
            everyTextBehind(start, 4);
        }
        String[] lists = {
            "0,0,5,5;10,0,15,5;20,0,25,5", "99,99,99,99", "0,0,99,99", "25,3,30,4", "5,30,9,31;1,1,1,1",
            "0,0,0,0;0,0,0,0;0,0,0,0;0,0,0,0;0,0,0,0;0,0,0,0;0,0,0,0;0,0,0,0;0,0,0,0;0,0,0,0",
            "10,10,10,10;10,10,10,10;10,10,10,10;10,10,10,10;10,10,10,10;10,10,10,10;1,1,1,1"};
        for (String list : lists) {
            oneSignChanged(list);
        }
        CHECK.end("TextTest");
    }

    private static void everyTextBehind(String start, int more) {
        compare(start);
        if (more > 0) {
            for (int i = 0; i < SIGNS.length(); i++) {
                everyTextBehind(start + SIGNS.charAt(i), more - 1);
            }
        }
    }

    private static void oneSignChanged(String list) {
        String signs = "0123456789,; -./:a~";
        compare(list);
        for (int at = 0; at < list.length(); at++) {
            compare(list.substring(0, at));
            compare(list.substring(0, at) + list.substring(at + 1));
            for (int i = 0; i < signs.length(); i++) {
                compare(list.substring(0, at) + signs.charAt(i) + list.substring(at + 1));
                compare(list.substring(0, at) + signs.charAt(i) + list.substring(at));
            }
        }
    }

    private static void compare(String text) {
        RectangleTree tree = new RectangleTree();
        Reference due = new Reference();
        for (int i = 0; i < text.length(); i++) {
            CHECK.due(text, "append", text.charAt(i), i, tree.append(text.charAt(i)), due.append(text.charAt(i)));
        }
        CHECK.due(text, "fault", 0, 0, tree.fault(), due.fault());
        int read = due.read();
        CHECK.due(text, "read", 0, 0, tree.read(), read);
        CHECK.due(text, "boxes", 0, 0, tree.boxes(), due.boxes());
        if (read > 0) {
            Compare.all(CHECK, text, tree, due);
        }
        CHECK.due(text, "fault behind read", 0, 0, tree.fault(), due.fault());
        CHECK.due(text, "clearText", 0, 0, tree.clearText(), due.clearText());
        CHECK.due(text, "fault behind clearText", 0, 0, tree.fault(), 0);
    }
}
