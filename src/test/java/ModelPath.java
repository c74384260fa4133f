import java.util.ArrayList;
import java.util.Collections;
import java.util.List;

/** The Model's paths: read into functions that go from node to node, as the document tells it. */
final class ModelPath {
    interface Way {
        List<Model.Item> from(Model.Item start);
    }

    interface Test {
        boolean holds(Model.Item item, int position, int size);
    }

    private final String text;
    private final Model.Item root;
    private int at = 0;

    ModelPath(String text, Model.Item root) {
        this.text = text;
        this.root = root;
    }

    private boolean ahead(String anyOf) {
        return at < text.length() && anyOf.indexOf(text.charAt(at)) >= 0;
    }

    private char eat(String anyOf) {
        if (!ahead(anyOf)) {
            throw new Model.Wrong(at);
        }
        return text.charAt(at++);
    }

    private String name() {
        String letters = "abcdefghijklmnopqrstuvwxyz";
        StringBuilder name = new StringBuilder();
        name.append(eat(letters));
        while (name.length() < 6 && ahead(letters)) {
            name.append(eat(letters));
        }
        return name.toString();
    }

    private String string() {
        eat("'");
        int end = text.indexOf('\'', at);
        if (end < 0) {
            throw new Model.Wrong(text.length());
        }
        String string = text.substring(at, end);
        at = end + 1;
        return string;
    }

    Way whole() {
        Way way = path(0);
        if (at < text.length()) {
            throw new Model.Wrong(at);
        }
        return way;
    }

    /** The DOCUMENT is told by null, as a start. */
    private Way path(int depth) {
        boolean fromDocument = ahead("/");
        if (fromDocument) {
            eat("/");
        }
        List<Way> steps = new ArrayList<>();
        steps.add(step(depth));
        while (ahead("/")) {
            eat("/");
            steps.add(step(depth));
        }
        return start -> {
            List<Model.Item> reached = new ArrayList<>();
            reached.add(fromDocument ? null : start);
            for (Way step : steps) {
                List<Model.Item> next = new ArrayList<>();
                for (Model.Item item : reached) {
                    for (Model.Item more : step.from(item)) {
                        if (!next.contains(more)) {
                            next.add(more);
                        }
                    }
                }
                reached = next;
            }
            return reached;
        };
    }

    private Way step(int depth) {
        char axis = ahead("DEPABSNLFR") ? eat("DEPABSNLFR") : ' ';
        String kind = ahead("*#%.") ? String.valueOf(eat("*#%.")) : name();
        List<Test> tests = new ArrayList<>();
        while (ahead("[")) {
            if (depth == 3) {
                throw new Model.Wrong(at);
            }
            eat("[");
            tests.add(test(depth + 1));
            eat("]");
        }
        return start -> {
            List<Model.Item> stay = new ArrayList<>();
            for (Model.Item item : axis(axis, start)) {
                if (isOf(kind, item)) {
                    stay.add(item);
                }
            }
            for (Test test : tests) {
                List<Model.Item> next = new ArrayList<>();
                for (int k = 0; k < stay.size(); k++) {
                    if (test.holds(stay.get(k), k + 1, stay.size())) {
                        next.add(stay.get(k));
                    }
                }
                stay = next;
            }
            return stay;
        };
    }

    private static boolean isOf(String kind, Model.Item item) {
        switch (kind) {
            case ".":
                return true;
            case "*":
                return item.kind == 1;
            case "#":
                return item.kind == 2;
            case "%":
                return item.kind == 3;
            default:
                return item.kind == 1 && item.text.equals(kind);
        }
    }

    private Test test(int depth) {
        if (ahead("!")) {
            eat("!");
            Test inner = test(depth);
            return (item, position, size) -> !inner.holds(item, position, size);
        }
        if (ahead("0123456789")) {
            String digits = String.valueOf(eat("0123456789"));
            int number = Integer.parseInt(ahead("0123456789") ? digits + eat("0123456789") : digits);
            return (item, position, size) -> position == number;
        }
        if (ahead("$")) {
            eat("$");
            return (item, position, size) -> position == size;
        }
        return ahead("@") ? attributeTest() : pathTest(depth);
    }

    private Test attributeTest() {
        eat("@");
        String name = name();
        if (!ahead("=")) {
            return (item, position, size) -> item.names.contains(name);
        }
        eat("=");
        String string = string();
        return (item, position, size) -> item.names.contains(name)
                && item.values.get(item.names.indexOf(name)).equals(string);
    }

    private Test pathTest(int depth) {
        Way way = path(depth);
        if (!ahead("=~")) {
            return (item, position, size) -> !way.from(item).isEmpty();
        }
        boolean whole = eat("=~") == '=';
        String string = string();
        return (item, position, size) -> {
            for (Model.Item reached : way.from(item)) {
                String value = reached.stringValue();
                if (whole ? value.equals(string) : value.startsWith(string)) {
                    return true;
                }
            }
            return false;
        };
    }

    private List<Model.Item> axis(char axis, Model.Item start) {
        List<Model.Item> all = root.all();
        List<Model.Item> items = new ArrayList<>();
        if (start == null) {
            return axis == ' ' ? List.of(root) : axis == 'D' || axis == 'E' ? all : items;
        }
        List<Model.Item> siblings = start.parent == null ? List.of(start) : start.parent.children;
        for (Model.Item item : all) {
            boolean behind = all.indexOf(item) > all.indexOf(start);
            boolean inStart = item.outer().contains(start);
            boolean outside = start.outer().contains(item);
            boolean sibling = siblings.contains(item) && item != start;
            boolean takes = axis == ' ' ? start.children.contains(item)
                    : axis == 'D' ? inStart
                    : axis == 'E' ? inStart || item == start
                    : axis == 'P' ? item == start.parent
                    : axis == 'A' ? outside
                    : axis == 'B' ? outside || item == start
                    : axis == 'S' ? item == start
                    : axis == 'N' ? sibling && behind
                    : axis == 'L' ? sibling && !behind
                    : axis == 'F' ? behind && !inStart
                    : !behind && item != start && !outside;
            if (takes) {
                items.add(item);
            }
        }
        if ("ABLR".indexOf(axis) >= 0) {
            Collections.reverse(items);
        }
        return items;
    }
}
