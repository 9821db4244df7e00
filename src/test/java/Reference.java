import java.util.ArrayList;
import java.util.HashSet;
import java.util.List;
import java.util.Set;

/**
 * The document once more, in its plainest form and with nothing taken from the program: nodes are objects, bounds
 * are computed anew each time, and states are whole copies. The tests compare the program with it.
 */
final class Reference {
    static final class Item {
        int number = -1;                 // of a box; -1 for a node
        int level;
        int[] corners;                   // of a box
        List<Item> list = new ArrayList<>();

        boolean isBox() {
            return number >= 0;
        }

        int[] rectangle() {
            if (isBox()) {
                return corners;
            }
            int[] all = null;
            for (Item entry : list) {
                all = all == null ? entry.rectangle() : union(all, entry.rectangle());
            }
            return all;
        }

        Item copy() {
            Item twin = new Item();
            twin.number = number;
            twin.level = level;
            twin.corners = corners;
            for (Item entry : list) {
                twin.list.add(entry.copy());
            }
            return twin;
        }
    }

    static final class State {
        Item root = new Item();
        int capacity = 4;
        int reinsert = 1;
        int splits = 0;
        int reinsertions = 0;

        State copy() {
            State twin = new State();
            twin.root = root.copy();
            twin.capacity = capacity;
            twin.reinsert = reinsert;
            twin.splits = splits;
            twin.reinsertions = reinsertions;
            return twin;
        }
    }

    State now = new State();
    List<State> history = new ArrayList<>();
    State snapshot = null;
    String text = "";
    private final Set<Integer> treated = new HashSet<>();

    // ---- rectangles

    static int[] union(int[] a, int[] b) {
        return new int[] {Math.min(a[0], b[0]), Math.min(a[1], b[1]), Math.max(a[2], b[2]), Math.max(a[3], b[3])};
    }

    static int area(int[] a) {
        return (a[2] - a[0] + 1) * (a[3] - a[1] + 1);
    }

    static int enlargement(int[] a, int[] b) {
        return area(union(a, b)) - area(a);
    }

    static int common(int[] a, int[] b) {
        int points = 0;
        for (int x = Math.max(a[0], b[0]); x <= Math.min(a[2], b[2]); x++) {
            for (int y = Math.max(a[1], b[1]); y <= Math.min(a[3], b[3]); y++) {
                points++;
            }
        }
        return points;
    }

    static int distance(int[] a, int[] b) {
        int dx = a[0] + a[2] - b[0] - b[2];
        int dy = a[1] + a[3] - b[1] - b[3];
        return dx * dx + dy * dy;
    }

    // ---- the tree

    List<Item> preorder(Item from) {
        List<Item> all = new ArrayList<>();
        all.add(from);
        for (Item entry : from.list) {
            all.addAll(preorder(entry));
        }
        return all;
    }

    List<Item> nodeList() {
        List<Item> found = preorder(now.root);
        found.removeIf(Item::isBox);
        return found;
    }

    List<Item> boxList(Item from) {
        List<Item> found = preorder(from);
        found.removeIf(item -> !item.isBox());
        return found;
    }

    Item box(int number) {
        for (Item item : boxList(now.root)) {
            if (item.number == number) {
                return item;
            }
        }
        return null;
    }

    Item holder(Item item) {
        for (Item node : nodeList()) {
            if (node.list.contains(item)) {
                return node;
            }
        }
        return null;
    }

    void own(Item item, int level) {
        treated.clear();
        insertAt(item, level);
    }

    void insertAt(Item item, int level) {
        Item node = now.root;
        while (node.level > level) {
            Item best = null;
            for (Item entry : node.list) {
                if (best == null) {
                    best = entry;
                    continue;
                }
                int a = enlargement(entry.rectangle(), item.rectangle());
                int b = enlargement(best.rectangle(), item.rectangle());
                if (a < b || a == b && area(entry.rectangle()) < area(best.rectangle())) {
                    best = entry;
                }
            }
            node = best;
        }
        node.list.add(item);
        if (node.list.size() > now.capacity) {
            overflow(node);
        }
    }

    void overflow(Item node) {
        if (now.reinsert == 1 && node != now.root && !treated.contains(node.level)) {
            treated.add(node.level);
            now.reinsertions++;
            Item far = node.list.get(0);
            for (Item entry : node.list) {
                if (distance(entry.rectangle(), node.rectangle()) >= distance(far.rectangle(), node.rectangle())) {
                    far = entry;
                }
            }
            node.list.remove(far);
            insertAt(far, node.level);
        } else {
            split(node);
        }
    }

    void split(Item node) {
        now.splits++;
        Item parent = node == now.root ? null : holder(node);
        List<Item> rest = new ArrayList<>(node.list);
        Item s1 = null;
        Item s2 = null;
        int greatest = 0;
        for (int i = 0; i < rest.size(); i++) {
            for (int j = i + 1; j < rest.size(); j++) {
                int[] a = rest.get(i).rectangle();
                int[] b = rest.get(j).rectangle();
                int value = area(union(a, b)) - area(a) - area(b);
                if (s1 == null || value > greatest) {
                    s1 = rest.get(i);
                    s2 = rest.get(j);
                    greatest = value;
                }
            }
        }
        rest.remove(s1);
        rest.remove(s2);
        Item g1 = new Item();
        Item g2 = new Item();
        g1.list.add(s1);
        g2.list.add(s2);
        int minimum = now.capacity / 2;
        while (!rest.isEmpty()) {
            if (g1.list.size() + rest.size() <= minimum) {
                g1.list.addAll(rest);
                rest.clear();
            } else if (g2.list.size() + rest.size() <= minimum) {
                g2.list.addAll(rest);
                rest.clear();
            } else {
                Item best = null;
                int most = -1;
                for (Item item : rest) {
                    int e1 = enlargement(g1.rectangle(), item.rectangle());
                    int e2 = enlargement(g2.rectangle(), item.rectangle());
                    if (Math.abs(e1 - e2) > most) {
                        most = Math.abs(e1 - e2);
                        best = item;
                    }
                }
                rest.remove(best);
                better(g1, g2, best).list.add(best);
            }
        }
        node.list = g1.list;
        g2.level = node.level;
        if (parent == null) {
            Item root = new Item();
            root.level = node.level + 1;
            root.list.add(node);
            root.list.add(g2);
            now.root = root;
            return;
        }
        parent.list.add(parent.list.indexOf(node) + 1, g2);
        if (parent.list.size() > now.capacity) {
            overflow(parent);
        }
    }

    static Item better(Item g1, Item g2, Item item) {
        int e1 = enlargement(g1.rectangle(), item.rectangle());
        int e2 = enlargement(g2.rectangle(), item.rectangle());
        if (e1 != e2) {
            return e1 < e2 ? g1 : g2;
        }
        int a1 = area(g1.rectangle());
        int a2 = area(g2.rectangle());
        if (a1 != a2) {
            return a1 < a2 ? g1 : g2;
        }
        return g2.list.size() < g1.list.size() ? g2 : g1;
    }

    // ---- actions

    void record() {
        history.add(now.copy());
        if (history.size() > 4) {
            history.remove(0);
        }
    }

    int addBox(int x1, int y1, int x2, int y2) {
        Item item = new Item();
        item.number = 0;
        while (box(item.number) != null) {
            item.number++;
        }
        item.level = -1;
        item.corners = new int[] {x1, y1, x2, y2};
        own(item, 0);
        return item.number;
    }

    static boolean good(int x1, int y1, int x2, int y2) {
        return 0 <= x1 && x1 <= x2 && x2 <= 99 && 0 <= y1 && y1 <= y2 && y2 <= 99;
    }

    int insert(int x1, int y1, int x2, int y2) {
        if (!good(x1, y1, x2, y2)) {
            return -2;
        }
        if (boxList(now.root).size() == 24) {
            return -3;
        }
        record();
        return addBox(x1, y1, x2, y2);
    }

    int remove(int number) {
        Item item = box(number);
        if (number < 0 || item == null) {
            return -1;
        }
        record();
        Item node = holder(item);
        node.list.remove(item);
        List<Item> kept = new ArrayList<>();
        while (node != now.root) {
            Item parent = holder(node);
            if (node.list.size() < now.capacity / 2) {
                parent.list.remove(node);
                kept.addAll(node.list);
            }
            node = parent;
        }
        while (now.root.level > 0 && now.root.list.size() == 1) {
            now.root = now.root.list.get(0);
        }
        if (now.root.level > 0 && now.root.list.isEmpty()) {
            now.root = new Item();
        }
        for (Item entry : kept) {
            if (!entry.isBox() && entry.level + 1 > now.root.level) {
                for (Item loose : boxList(entry)) {
                    own(loose, 0);
                }
            } else {
                own(entry, entry.level + 1);
            }
        }
        return boxList(now.root).size();
    }

    int pack() {
        record();
        List<Item> all = boxList(now.root);
        int n = all.size();
        if (n == 0) {
            now.root = new Item();
            return 1;
        }
        int p = 0;
        while (p * now.capacity < n) {
            p++;
        }
        int s = 0;
        while (s * s < p) {
            s++;
        }
        all.sort((a, b) -> sums(a, 0) != sums(b, 0) ? sums(a, 0) - sums(b, 0) : a.number - b.number);
        List<Item> row = new ArrayList<>();
        for (int from = 0; from < n; from += s * now.capacity) {
            List<Item> slice = new ArrayList<>(all.subList(from, Math.min(n, from + s * now.capacity)));
            slice.sort((a, b) -> sums(a, 1) != sums(b, 1) ? sums(a, 1) - sums(b, 1) : a.number - b.number);
            row.addAll(cut(slice, 0));
        }
        for (int level = 1; row.size() > 1; level++) {
            row = cut(row, level);
        }
        now.root = row.get(0);
        return nodeList().size();
    }

    private static int sums(Item item, int side) {
        return item.corners[side] + item.corners[side + 2];
    }

    private List<Item> cut(List<Item> row, int level) {
        List<Item> made = new ArrayList<>();
        for (int from = 0; from < row.size(); from += now.capacity) {
            Item node = new Item();
            node.level = level;
            node.list.addAll(row.subList(from, Math.min(row.size(), from + now.capacity)));
            made.add(node);
        }
        return made;
    }

    int setSetting(int setting, int value) {
        if (setting == 0) {
            if (value < 3 || value > 5) {
                return -2;
            }
            record();
            int before = now.capacity;
            now.capacity = value;
            return before;
        }
        if (setting == 1) {
            if (value < 0 || value > 1) {
                return -2;
            }
            record();
            int before = now.reinsert;
            now.reinsert = value;
            return before;
        }
        return -1;
    }

    int append(int character) {
        if (character < 32 || character > 126) {
            return -2;
        }
        if (text.length() == 80) {
            return -3;
        }
        text += (char) character;
        return text.length();
    }

    int clearText() {
        int before = text.length();
        text = "";
        return before;
    }

    /** Whether some list begins with the text: it is tried whether it can be written on to a whole list. */
    static boolean canBegin(String start) {
        int cut = start.lastIndexOf(';');
        if (cut >= 0) {
            for (String piece : start.substring(0, cut).split(";", -1)) {
                if (rectangleOf(piece) == null) {
                    return false;
                }
            }
        }
        String[] parts = start.substring(cut + 1).split(",", -1);
        if (parts.length > 4) {
            return false;
        }
        int[] numbers = new int[4];
        for (int i = 0; i < parts.length; i++) {
            int least = i < 2 ? 0 : numbers[i - 2];
            boolean last = i == parts.length - 1;
            int found = -1;
            for (int number = least; number <= 99; number++) {
                String written = Integer.toString(number);
                if (last ? written.startsWith(parts[i]) : written.equals(parts[i])) {
                    found = number;
                }
            }
            if (found < 0) {
                return false;
            }
            numbers[i] = found;
        }
        return true;
    }

    static int[] rectangleOf(String piece) {
        String[] parts = piece.split(",", -1);
        if (parts.length != 4) {
            return null;
        }
        int[] numbers = new int[4];
        for (int i = 0; i < 4; i++) {
            numbers[i] = -1;
            for (int number = 0; number <= 99; number++) {
                if (Integer.toString(number).equals(parts[i])) {
                    numbers[i] = number;
                }
            }
            if (numbers[i] < 0) {
                return null;
            }
        }
        return numbers[2] >= numbers[0] && numbers[3] >= numbers[1] ? numbers : null;
    }

    List<int[]> parsed() {
        List<int[]> found = new ArrayList<>();
        for (String piece : text.split(";", -1)) {
            int[] rectangle = rectangleOf(piece);
            if (rectangle == null) {
                return null;
            }
            found.add(rectangle);
        }
        return found;
    }

    int fault() {
        for (int i = 0; i < text.length(); i++) {
            if (!canBegin(text.substring(0, i + 1))) {
                return i;
            }
        }
        return parsed() == null ? text.length() : -5;
    }

    int read() {
        int fault = fault();
        if (fault != -5) {
            return -100 - fault;
        }
        List<int[]> found = parsed();
        if (boxList(now.root).size() + found.size() > 24) {
            return -3;
        }
        record();
        for (int[] r : found) {
            addBox(r[0], r[1], r[2], r[3]);
        }
        return found.size();
    }

    int undo() {
        if (history.isEmpty()) {
            return -5;
        }
        now = history.remove(history.size() - 1);
        return history.size();
    }

    int save() {
        snapshot = now.copy();
        return boxList(now.root).size();
    }

    int restore() {
        if (snapshot == null) {
            return -4;
        }
        record();
        now = snapshot.copy();
        return boxList(now.root).size();
    }

    // ---- queries

    int boxes() {
        int mask = 0;
        for (Item item : boxList(now.root)) {
            mask += 1 << item.number;
        }
        return mask;
    }

    int side(int number, int side) {
        Item item = box(number);
        if (number < 0 || item == null) {
            return -1;
        }
        return side < 0 || side > 3 ? -2 : item.corners[side];
    }

    int nodes() {
        return nodeList().size();
    }

    int height() {
        return now.root.level;
    }

    Item node(int number) {
        List<Item> all = nodeList();
        return number < 0 || number >= all.size() ? null : all.get(number);
    }

    int level(int number) {
        Item node = node(number);
        return node == null ? -1 : node.level;
    }

    int entries(int number) {
        Item node = node(number);
        return node == null ? -1 : node.list.size();
    }

    int entry(int number, int place) {
        Item node = node(number);
        if (node == null || place < 0 || place >= node.list.size()) {
            return -1;
        }
        Item entry = node.list.get(place);
        return entry.isBox() ? entry.number : nodeList().indexOf(entry);
    }

    int bound(int number, int side) {
        Item node = node(number);
        if (node == null) {
            return -1;
        }
        if (side < 0 || side > 3) {
            return -2;
        }
        return node.list.isEmpty() ? -5 : node.rectangle()[side];
    }

    int leafOf(int number) {
        Item item = box(number);
        return number < 0 || item == null ? -1 : nodeList().indexOf(holder(item));
    }

    int setting(int setting) {
        return setting == 0 ? now.capacity : setting == 1 ? now.reinsert : -1;
    }

    int meeting(int x1, int y1, int x2, int y2) {
        if (!good(x1, y1, x2, y2)) {
            return -2;
        }
        int count = 0;
        for (Item item : boxList(now.root)) {
            count += common(item.corners, new int[] {x1, y1, x2, y2}) > 0 ? 1 : 0;
        }
        return count;
    }

    int inside(int x1, int y1, int x2, int y2) {
        if (!good(x1, y1, x2, y2)) {
            return -2;
        }
        int mask = 0;
        for (Item item : boxList(now.root)) {
            if (common(item.corners, new int[] {x1, y1, x2, y2}) == area(item.corners)) {
                mask += 1 << item.number;
            }
        }
        return mask;
    }

    int visits(int x1, int y1, int x2, int y2) {
        return good(x1, y1, x2, y2) ? 1 + visitsBelow(now.root, new int[] {x1, y1, x2, y2}) : -2;
    }

    private int visitsBelow(Item node, int[] window) {
        int count = 0;
        for (Item entry : node.list) {
            if (!entry.isBox() && common(entry.rectangle(), window) > 0) {
                count += 1 + visitsBelow(entry, window);
            }
        }
        return count;
    }

    int nearest(int x, int y) {
        if (!good(x, y, x, y)) {
            return -2;
        }
        int best = -5;
        int least = 0;
        for (int number = 0; number < 24; number++) {
            Item item = box(number);
            if (item == null) {
                continue;
            }
            int distance = Integer.MAX_VALUE;
            for (int px = item.corners[0]; px <= item.corners[2]; px++) {
                for (int py = item.corners[1]; py <= item.corners[3]; py++) {
                    distance = Math.min(distance, (px - x) * (px - x) + (py - y) * (py - y));
                }
            }
            if (best < 0 || distance < least) {
                best = number;
                least = distance;
            }
        }
        return best;
    }

    private List<Item> ofLevel(int level) {
        List<Item> found = nodeList();
        found.removeIf(node -> node.level != level);
        return found;
    }

    int area(int level) {
        if (level < 0 || level > now.root.level) {
            return -1;
        }
        int sum = 0;
        for (Item node : ofLevel(level)) {
            sum += node.list.isEmpty() ? 0 : area(node.rectangle());
        }
        return sum;
    }

    int overlap(int level) {
        if (level < 0 || level > now.root.level) {
            return -1;
        }
        int sum = 0;
        List<Item> found = ofLevel(level);
        for (int i = 0; i < found.size(); i++) {
            for (int j = i + 1; j < found.size(); j++) {
                sum += common(found.get(i).rectangle(), found.get(j).rectangle());
            }
        }
        return sum;
    }

    float fill() {
        int sum = 0;
        for (Item node : nodeList()) {
            sum += node.list.size();
        }
        return (float) sum / (nodes() * now.capacity);
    }
}
