import java.util.ArrayList;
import java.util.Collections;
import java.util.List;

/**
 * The document once more, in its plainest form and by other means than the program: lists, copies
 * of the whole tree and walks from node to node. ModelTest compares the two.
 */
final class Model {
    static final int MISSING = -1000;
    static final int REFUSED = -2000;

    /** The first error of a text. */
    static final class Wrong extends RuntimeException {
        private static final long serialVersionUID = 1L;
        final int place;

        Wrong(int place) {
            this.place = place;
        }
    }

    static final class Item {
        int number = -1;
        int kind;
        String text = "";
        List<String> names = new ArrayList<>();
        List<String> values = new ArrayList<>();
        Item parent;
        List<Item> children = new ArrayList<>();
        List<Integer> tail = new ArrayList<>();

        List<Item> all() {
            List<Item> all = new ArrayList<>();
            all.add(this);
            for (Item child : children) {
                all.addAll(child.all());
            }
            return all;
        }

        List<Item> outer() {
            List<Item> outer = new ArrayList<>();
            for (Item item = parent; item != null; item = item.parent) {
                outer.add(item);
            }
            return outer;
        }

        List<Integer> label() {
            List<Integer> label = parent == null ? new ArrayList<>() : parent.label();
            label.addAll(tail);
            return label;
        }

        String stringValue() {
            if (kind != 1) {
                return text;
            }
            StringBuilder value = new StringBuilder();
            for (Item item : all()) {
                value.append(item.kind == 2 ? item.text : "");
            }
            return value.toString();
        }

        Item copy(Item copyOfParent) {
            Item copy = new Item();
            copy.number = number;
            copy.kind = kind;
            copy.text = text;
            copy.names = names;
            copy.values = values;
            copy.parent = copyOfParent;
            copy.tail = tail;
            for (Item child : children) {
                copy.children.add(child.copy(copy));
            }
            return copy;
        }

        String written() {
            if (kind == 2) {
                return text.replace("&", "&amp;").replace("<", "&lt;").replace(">", "&gt;");
            }
            if (kind == 3) {
                return "<!--" + text + "-->";
            }
            StringBuilder all = new StringBuilder("<" + text);
            for (int k = 0; k < names.size(); k++) {
                String value = values.get(k).replace("&", "&amp;").replace("<", "&lt;").replace("\"", "&quot;");
                all.append(" ").append(names.get(k)).append("=\"").append(value).append("\"");
            }
            if (children.isEmpty()) {
                return all.append("/>").toString();
            }
            all.append(">");
            for (Item child : children) {
                all.append(child.written());
            }
            return all.append("</").append(text).append(">").toString();
        }
    }

    static List<Integer> tailBetween(List<Integer> a, List<Integer> b) {
        if (a == null && b == null) {
            return List.of(1);
        }
        if (b == null) {
            int p = a.get(0);
            return List.of(p % 2 != 0 ? p + 2 : p + 1);
        }
        if (a == null) {
            int q = b.get(0);
            return List.of(q % 2 != 0 ? q - 2 : q - 1);
        }
        int p = a.get(0);
        int q = b.get(0);
        for (int odd = p + 1; odd < q; odd++) {
            if (odd % 2 != 0) {
                return List.of(odd);
            }
        }
        if (p % 2 != 0 && q % 2 != 0) {
            return List.of(p + 1, 1);
        }
        List<Integer> tail = new ArrayList<>();
        if (p == q) {
            tail.add(p);
            tail.addAll(tailBetween(a.subList(1, a.size()), b.subList(1, b.size())));
        } else if (p % 2 == 0) {
            tail.add(p);
            tail.addAll(tailBetween(a.subList(1, a.size()), null));
        } else {
            tail.add(q);
            tail.addAll(tailBetween(null, b.subList(1, b.size())));
        }
        return tail;
    }

    private final StringBuilder buffer = new StringBuilder();
    private Item root = null;
    private Item rootOfBatch = null;
    private int made = 0;
    private int changes = 0;
    private List<Integer> found = new ArrayList<>();

    private String use() {
        String text = buffer.toString();
        buffer.setLength(0);
        return text;
    }

    private void beginBatch() {
        rootOfBatch = root == null ? null : root.copy(null);
        changes = 0;
    }

    private List<Item> there() {
        return root == null ? new ArrayList<>() : root.all();
    }

    private Item find(int i) {
        for (Item item : there()) {
            if (item.number == i) {
                return item;
            }
        }
        return null;
    }

    private static boolean passesLimits(Item read) {
        for (Item item : read.all()) {
            if (item.names.size() > 3 || (item.kind != 1 && item.text.length() > 20)) {
                return true;
            }
            for (String value : item.values) {
                if (value.length() > 20) {
                    return true;
                }
            }
        }
        return false;
    }

    private void number(Item read) {
        for (Item item : read.all()) {
            item.number = made++;
        }
    }

    boolean type(char c) {
        if (c < 32 || c > 126 || buffer.length() == 120) {
            return false;
        }
        buffer.append(c);
        return true;
    }

    int load() {
        Item read;
        try {
            read = new ModelReader(use()).document();
        } catch (Wrong wrong) {
            return -1 - wrong.place;
        }
        int size = read.all().size();
        if (passesLimits(read) || size > 40 || made + size > 200) {
            return REFUSED;
        }
        number(read);
        root = read;
        beginBatch();
        return size;
    }

    int insert(int i, int where) {
        String text = use();
        Item beside = find(i);
        if (beside == null) {
            return MISSING;
        }
        if (where < 0 || where > 3 || (where < 2 && beside == root) || (where > 1 && beside.kind != 1)) {
            return REFUSED;
        }
        Item parent = where < 2 ? beside.parent : beside;
        int index = where == 2 ? 0 : where == 3 ? parent.children.size()
                : parent.children.indexOf(beside) + where;
        Item read;
        try {
            read = new ModelReader(text).oneOf(parent);
        } catch (Wrong wrong) {
            return -1 - wrong.place;
        }
        Item left = index == 0 ? null : parent.children.get(index - 1);
        Item right = index == parent.children.size() ? null : parent.children.get(index);
        if (read.kind == 2 && left != null && left.kind == 2) {
            return join(left, left.text + read.text);
        }
        if (read.kind == 2 && right != null && right.kind == 2) {
            return join(right, read.text + right.text);
        }
        return put(read, parent, index, tailBetween(left == null ? null : left.tail,
                right == null ? null : right.tail));
    }

    private int join(Item text, String value) {
        if (value.length() > 20) {
            return REFUSED;
        }
        text.text = value;
        changes++;
        return text.number;
    }

    private int put(Item read, Item parent, int index, List<Integer> tail) {
        read.tail = tail;
        read.parent = parent;
        int size = read.all().size();
        if (passesLimits(read) || there().size() + size > 40 || made + size > 200) {
            return REFUSED;
        }
        for (Item item : read.all()) {
            if (item.label().size() > 16) {
                return REFUSED;
            }
        }
        number(read);
        parent.children.add(index, read);
        changes++;
        return read.number;
    }

    int remove(int i) {
        Item gone = find(i);
        if (gone == null) {
            return MISSING;
        }
        if (gone == root) {
            return REFUSED;
        }
        List<Item> siblings = gone.parent.children;
        int index = siblings.indexOf(gone);
        int count = gone.all().size();
        if (index > 0 && index + 1 < siblings.size()) {
            Item left = siblings.get(index - 1);
            Item right = siblings.get(index + 1);
            if (left.kind == 2 && right.kind == 2) {
                if ((left.text + right.text).length() > 20) {
                    return REFUSED;
                }
                left.text += right.text;
                siblings.remove(right);
                count++;
            }
        }
        siblings.remove(gone);
        changes++;
        return count;
    }

    boolean replace(int i) {
        String text = use();
        Item item = find(i);
        if (item == null || text.isEmpty() || text.length() > 20) {
            return false;
        }
        if (item.kind == 1 && !text.matches("[a-z]{1,6}")) {
            return false;
        }
        if (item.kind == 3 && (text.contains("--") || text.endsWith("-"))) {
            return false;
        }
        item.text = text;
        changes++;
        return true;
    }

    int query(int i) {
        String text = use();
        Item start = find(i);
        if (start == null) {
            return MISSING;
        }
        List<Item> reached;
        try {
            reached = new ModelPath(text, root).whole().from(start);
        } catch (Wrong wrong) {
            return -1 - wrong.place;
        }
        found = new ArrayList<>();
        for (Item item : there()) {
            if (reached.contains(item)) {
                found.add(item.number);
            }
        }
        return found.size();
    }

    int result(int k) {
        return k >= 0 && k < found.size() ? found.get(k) : MISSING;
    }

    int commit() {
        int had = changes;
        beginBatch();
        return had;
    }

    int crash() {
        int had = changes;
        use();
        root = rootOfBatch;
        beginBatch();
        return had;
    }

    int kind(int i) {
        Item item = find(i);
        return item == null ? MISSING : item.kind;
    }

    int node(int i, int what) {
        Item item = find(i);
        if (item == null || what < 0 || what > 6) {
            return MISSING;
        }
        int parent = item.parent == null ? -1 : item.parent.number;
        int among = item.parent == null ? 0 : item.parent.children.indexOf(item);
        int[] answers = {parent, item.children.size(), among, item.names.size(), item.text.length(),
            item.label().size(), there().indexOf(item)};
        return answers[what];
    }

    int letter(int i, int k) {
        Item item = find(i);
        return item == null || k < 0 || k >= item.text.length() ? 0 : item.text.charAt(k);
    }

    int label(int i, int k) {
        Item item = find(i);
        return item == null || k < 0 || k >= item.label().size() ? 0 : item.label().get(k);
    }

    int root() {
        return root == null ? MISSING : root.number;
    }

    int nodes() {
        return there().size();
    }

    String written() {
        return root == null ? "" : root.written();
    }

    List<Integer> numbers() {
        List<Integer> numbers = new ArrayList<>();
        for (Item item : there()) {
            numbers.add(item.number);
        }
        return Collections.unmodifiableList(numbers);
    }
}
