import java.util.ArrayList;
import java.util.List;
import java.util.Random;

/**
 * Random runs, the same ones each time, on the program and on the Model side by side: every call
 * must have the same answer, and what the document says of labels, crashes and writing must hold.
 */
final class ModelTest {
    private static final int RUNS = 800;
    private static final int CALLS = 40;

    private final Check check = new Check();
    private final Random random = new Random(20261115L);
    private MarkupStore store;
    private Model model;

    public static void main(String[] args) {
        ModelTest test = new ModelTest();
        for (int run = 0; run < RUNS; run++) {
            test.run(run);
        }
        test.check.end("ModelTest");
    }

    private void run(int number) {
        check.begin("run " + number);
        store = check.store;
        model = new Model();
        for (int k = 0; k < 20 && model.nodes() < 5; k++) {
            type(document());
            check.due("load", store.load(), model.load());
        }
        for (int k = 0; k < CALLS; k++) {
            call();
            if (k % 8 == 0 || k == CALLS - 1) {
                compareAll();
            }
        }
        checkLabels();
        checkWrittenAgain();
    }

    private void type(String text) {
        for (char c : text.toCharArray()) {
            check.due("type " + c, store.type(c), model.type(c));
        }
    }

    private int below(int bound) {
        return random.nextInt(bound);
    }

    private String pick(String... choices) {
        return choices[below(choices.length)];
    }

    private int someNode() {
        List<Integer> there = model.numbers();
        if (there.isEmpty() || below(12) == 0) {
            return below(60) - 2;
        }
        return there.get(below(there.size()));
    }

    private void call() {
        int i = someNode();
        switch (below(20)) {
            case 0:
                if (below(3) > 0) {
                    return;
                }
                type(broken(document()));
                check.due("load", store.load(), model.load());
                return;
            case 1:
            case 2:
            case 3:
            case 4:
            case 5:
                String text = broken(content(below(3)));
                int where = below(30) == 0 ? below(9) - 3 : below(4);
                type(text);
                check.due("insert(" + i + ", " + where + ") of " + text, store.insert(i, where), model.insert(i, where));
                return;
            case 6:
                check.due("remove(" + i + ")", store.remove(i), model.remove(i));
                return;
            case 7:
            case 8:
                type(pick("a", "bc", "x-y", "--", "a--b", "-", "z-", "&<>", "", "0123456789", "abcdefg", "q r"));
                check.due("replace(" + i + ")", store.replace(i), model.replace(i));
                return;
            case 9:
                check.due("commit()", store.commit(), model.commit());
                return;
            case 10:
                check.due("crash()", store.crash(), model.crash());
                return;
            default:
                comparePath(i);
        }
    }

    private void comparePath(int i) {
        String path = broken(path(0));
        type(path);
        int size = model.query(i);
        check.due("query(" + i + ") of " + path, store.query(i), size);
        for (int k = -1; k <= size; k++) {
            check.due("query(" + i + ") of " + path + ", result(" + k + ")", store.result(k), model.result(k));
        }
    }

    /** Mostly the text itself; else with a character more, less or other. */
    private String broken(String text) {
        if (text.isEmpty() || below(4) > 0) {
            return text;
        }
        int place = below(text.length() + 1);
        String sign = String.valueOf("<>/!-\"=&;ab1 [].*'@$~DS".charAt(below(23)));
        String front = text.substring(0, place);
        switch (below(4)) {
            case 0:
                return front;
            case 1:
                return front + sign + text.substring(place);
            case 2:
                return front + sign + (place < text.length() ? text.substring(place + 1) : "");
            default:
                return front + (place < text.length() ? text.substring(place + 1) : "");
        }
    }

    /** The longest of some random ones that the buffer can hold. */
    private String document() {
        String longest = "<a/>";
        for (int k = 0; k < 12; k++) {
            String document = element(4 + below(2), 5);
            if (document.length() > longest.length() && document.length() <= 120) {
                longest = document;
            }
        }
        return longest;
    }

    private String element(int depth, int most) {
        String name = pick("a", "b", "b", "a", "abcdef");
        StringBuilder all = new StringBuilder("<" + name);
        for (int k = below(8) - 5; k > 0; k--) {
            all.append(" ").append(pick("x", "y", "z", "abcdef", "w")).append("=\"");
            all.append(pick("", "1", "2", "&lt;", "&quot;", "a>b'")).append("\"");
        }
        int children = depth == 0 ? 0 : below(most);
        if (children == 0 && below(2) == 0) {
            return all.append("/>").toString();
        }
        all.append(">");
        for (int k = 0; k < children; k++) {
            all.append(content(depth - 1));
        }
        return all.append("</").append(name).append(">").toString();
    }

    private String content(int depth) {
        switch (below(5)) {
            case 0:
                return pick("1", "2", "12", "&amp;", "x&gt;&apos;", "0123456789");
            case 1:
                return pick("<!---->", "<!--1-->", "<!--->-->", "<!--a-b-->");
            default:
                return element(depth, 3);
        }
    }

    private String path(int depth) {
        StringBuilder all = new StringBuilder(pick("", "", "/", "/E./", "E./"));
        all.append(step(depth));
        for (int k = below(depth == 0 ? 3 : 2); k > 0; k--) {
            all.append("/").append(step(depth));
        }
        return all.toString();
    }

    private String step(int depth) {
        StringBuilder all = new StringBuilder();
        all.append(pick("", "", "D", "E", "P", "A", "B", "S", "N", "L", "F", "R", "D", "E"));
        all.append(pick(".", ".", ".", ".", "*", "*", "*", "#", "%", "a", "b"));
        for (int k = depth < 3 || below(20) == 0 ? below(4) - 1 - depth / 2 : 0; k > 0; k--) {
            all.append("[").append(pick("", "", "!", "!!")).append(predicate(depth + 1)).append("]");
        }
        return all.toString();
    }

    private String predicate(int depth) {
        switch (below(7)) {
            case 0:
                return pick("1", "2", "02", "3", "10", "0");
            case 1:
                return "$";
            case 2:
                return pick("@x", "@y", "@x='1'", "@y=''", "@z='<'");
            case 3:
                return pick("S.", "E#", path(depth)) + pick("=", "~") + pick("'1'", "''", "'12'", "'&'", "'x>'");
            default:
                return path(depth);
        }
    }

    private void compareAll() {
        check.due("root()", store.root(), model.root());
        check.due("nodes()", store.nodes(), model.nodes());
        check.due("document", check.document(), model.written());
        check.due("written(-1)", store.written(-1), 0);
        check.due("written behind the last", store.written(store.length()), 0);
        for (int i = -1; i < 60; i++) {
            compareNode(i);
        }
        for (int i : model.numbers()) {
            compareNode(i);
        }
    }

    private void compareNode(int i) {
        check.due("kind(" + i + ")", store.kind(i), model.kind(i));
        for (int what = -1; what <= 7; what++) {
            check.due("node(" + i + ", " + what + ")", store.node(i, what), model.node(i, what));
        }
        for (int k = -1; k <= Math.max(model.node(i, 4), 0); k++) {
            check.due("letter(" + i + ", " + k + ")", store.letter(i, k), model.letter(i, k));
        }
        for (int k = -1; k <= Math.max(model.node(i, 5), 0); k++) {
            check.due("label(" + i + ", " + k + ")", store.label(i, k), model.label(i, k));
        }
    }

    private List<Integer> labelOf(int i) {
        List<Integer> label = new ArrayList<>();
        for (int k = 0; k < store.node(i, 5); k++) {
            label.add(store.label(i, k));
        }
        return label;
    }

    private static boolean sorts(List<Integer> a, List<Integer> b) {
        for (int k = 0; k < a.size() && k < b.size(); k++) {
            if (!a.get(k).equals(b.get(k))) {
                return a.get(k) < b.get(k);
            }
        }
        return a.size() < b.size();
    }

    private void checkLabels() {
        List<Integer> there = model.numbers();
        for (int k = 1; k < there.size(); k++) {
            boolean sorted = sorts(labelOf(there.get(k - 1)), labelOf(there.get(k)));
            check.due("labels of " + there.get(k - 1) + " and " + there.get(k) + " are sorted", sorted, true);
        }
    }

    /** A document that fits into the buffer can be read again, into the same tree. */
    private void checkWrittenAgain() {
        String document = check.document();
        if (document.isEmpty() || document.length() > 120) {
            return;
        }
        int size = store.nodes();
        check.store = new MarkupStore();
        check.type(document);
        check.due("load of what was written", check.store.load(), size);
        check.due("what was written again", check.document(), document);
    }
}
