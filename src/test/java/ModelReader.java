import java.util.ArrayList;
import java.util.List;

/** The Model's reader of markup: an error is thrown where it is found. */
final class ModelReader {
    private final String text;
    private int at = 0;

    ModelReader(String text) {
        this.text = text;
    }

    private boolean ahead(String word) {
        return text.startsWith(word, at);
    }

    private boolean letterAt(int place) {
        return place < text.length() && text.substring(place, place + 1).matches("[a-z]");
    }

    private void eat(String word) {
        for (char c : word.toCharArray()) {
            if (at >= text.length() || text.charAt(at) != c) {
                throw new Model.Wrong(at);
            }
            at++;
        }
    }

    private String name() {
        if (!letterAt(at)) {
            throw new Model.Wrong(at);
        }
        int end = at;
        while (letterAt(end) && end < at + 6) {
            end++;
        }
        String name = text.substring(at, end);
        at = end;
        return name;
    }

    Model.Item document() {
        if (!ahead("<")) {
            throw new Model.Wrong(0);
        }
        Model.Item root = element(null);
        root.tail = List.of(1);
        eatEnd();
        return root;
    }

    private void eatEnd() {
        if (at < text.length()) {
            throw new Model.Wrong(at);
        }
    }

    Model.Item oneOf(Model.Item parent) {
        if (text.isEmpty()) {
            throw new Model.Wrong(0);
        }
        Model.Item read = piece(parent);
        eatEnd();
        return read;
    }

    private Model.Item piece(Model.Item parent) {
        if (!ahead("<")) {
            Model.Item item = item(2, parent);
            item.text = value('<');
            return item;
        }
        if (ahead("<!")) {
            return comment(parent);
        }
        if (!letterAt(at + 1)) {
            throw new Model.Wrong(at + 1);
        }
        if (parent.outer().size() + 1 > 5) {
            throw new Model.Wrong(at);
        }
        return element(parent);
    }

    private static Model.Item item(int kind, Model.Item parent) {
        Model.Item item = new Model.Item();
        item.kind = kind;
        item.parent = parent;
        return item;
    }

    private Model.Item element(Model.Item parent) {
        eat("<");
        Model.Item element = item(1, parent);
        element.text = name();
        while (ahead(" ")) {
            attribute(element);
        }
        if (ahead("/")) {
            eat("/>");
            return element;
        }
        eat(">");
        while (!ahead("</")) {
            if (at == text.length()) {
                throw new Model.Wrong(at);
            }
            Model.Item child = piece(element);
            child.tail = List.of(2 * element.children.size() + 1);
            element.children.add(child);
        }
        eat("</" + element.text + ">");
        return element;
    }

    private void attribute(Model.Item element) {
        eat(" ");
        int start = at;
        String name = name();
        if (element.names.contains(name)) {
            throw new Model.Wrong(start);
        }
        eat("=\"");
        element.names = with(element.names, name);
        element.values = with(element.values, value('"'));
        eat("\"");
    }

    private static List<String> with(List<String> list, String more) {
        List<String> longer = new ArrayList<>(list);
        longer.add(more);
        return longer;
    }

    private String value(char stop) {
        StringBuilder value = new StringBuilder();
        while (at < text.length() && text.charAt(at) != '<' && text.charAt(at) != stop) {
            value.append(ahead("&") ? entity() : text.charAt(at++));
        }
        return value.toString();
    }

    private char entity() {
        String[] entities = {"&lt;", "&gt;", "&amp;", "&quot;", "&apos;"};
        for (int k = 0; k < entities.length; k++) {
            if (ahead(entities[k])) {
                at += entities[k].length();
                return "<>&\"'".charAt(k);
            }
        }
        throw new Model.Wrong(at);
    }

    private Model.Item comment(Model.Item parent) {
        eat("<!--");
        int end = text.indexOf("--", at);
        if (end < 0) {
            throw new Model.Wrong(text.length());
        }
        Model.Item comment = item(3, parent);
        comment.text = text.substring(at, end);
        at = end;
        eat("-->");
        return comment;
    }
}
