/** Promises 11 to 18: what the nodes are, and how the document is written out. */
final class NodeTest {
    private static final Check check = new Check();

    public static void main(String[] args) {
        asked();
        askedBehindChanges();
        missing();
        writtenOut();
        writtenEntities();
        check.end("NodeTest");
    }

    private static void dueNode(int i, int kind, int... want) {
        check.due("kind(" + i + ")", check.store.kind(i), kind);
        for (int what = 0; what < want.length; what++) {
            check.due("node(" + i + ", " + what + ")", check.store.node(i, what), want[what]);
        }
    }

    private static void asked() {
        check.beginWith("asked", "<ab x=\"1\" y=\"\">t&amp;u<c z=\"\"><d/></c><!--wxyz-->v</ab>");
        check.due("root()", check.store.root(), 0);
        check.due("nodes()", check.store.nodes(), 6);
        dueNode(0, 1, -1, 4, 0, 2, 2, 1, 0);
        dueNode(1, 2, 0, 0, 0, 0, 3, 2, 1);
        dueNode(2, 1, 0, 1, 1, 1, 1, 2, 2);
        dueNode(3, 1, 2, 0, 0, 0, 1, 3, 3);
        dueNode(4, 3, 0, 0, 2, 0, 4, 2, 4);
        dueNode(5, 2, 0, 0, 3, 0, 1, 2, 5);
        check.dueWords(0, "ab");
        check.dueWords(1, "t&u");
        check.dueWords(4, "wxyz");
        check.dueLabel(0, 1);
        check.dueLabel(1, 1, 1);
        check.dueLabel(2, 1, 3);
        check.dueLabel(3, 1, 3, 1);
        check.dueLabel(4, 1, 5);
        check.dueLabel(5, 1, 7);
    }

    private static void askedBehindChanges() {
        check.beginWith("asked behind changes", "<a><b/><c>t</c></a>");
        check.dueInsert("<d/>", 1, 0, 4);
        check.dueInsert("<e/>", 3, 0, 5);
        dueNode(4, 1, 0, 0, 0, 0, 1, 2, 1);
        dueNode(1, 1, 0, 0, 1, 0, 1, 2, 2);
        dueNode(2, 1, 0, 2, 2, 0, 1, 2, 3);
        dueNode(5, 1, 2, 0, 0, 0, 1, 3, 4);
        dueNode(3, 2, 2, 0, 1, 0, 1, 3, 5);
        check.due("remove(1)", check.store.remove(1), 1);
        dueNode(2, 1, 0, 2, 1, 0, 1, 2, 2);
        check.due("nodes()", check.store.nodes(), 5);
        check.dueReplace("long", 2, true);
        dueNode(2, 1, 0, 2, 1, 0, 4, 2, 2);
        check.dueLabel(2, 1, 3);
        check.dueLoad("<z/>", 1);
        check.due("root()", check.store.root(), 6);
        dueNode(6, 1, -1, 0, 0, 0, 1, 1, 0);
    }

    private static void missing() {
        check.beginWith("missing", "<a>t</a>");
        int[] wrong = {-1, 2, 40, 199, 200, 1000, Integer.MIN_VALUE, Integer.MAX_VALUE};
        for (int i : wrong) {
            check.due("kind(" + i + ")", check.store.kind(i), -1000);
            check.due("letter(" + i + ", 0)", check.store.letter(i, 0), 0);
            check.due("label(" + i + ", 0)", check.store.label(i, 0), 0);
            for (int what = -1; what < 8; what++) {
                check.due("node(" + i + ", " + what + ")", check.store.node(i, what), -1000);
            }
        }
        int[] beyond = {-1, 7, Integer.MIN_VALUE, Integer.MAX_VALUE};
        for (int k : beyond) {
            check.due("node(0, " + k + ")", check.store.node(0, k), -1000);
            check.due("letter(0, " + k + ")", check.store.letter(0, k), 0);
            check.due("label(0, " + k + ")", check.store.label(0, k), 0);
            check.due("result(" + k + ")", check.store.result(k), -1000);
        }
        check.due("letter(0, 1)", check.store.letter(0, 1), 0);
        check.due("label(0, 1)", check.store.label(0, 1), 0);
        check.due("remove(1)", check.store.remove(1), 1);
        check.due("kind(1)", check.store.kind(1), -1000);
        check.due("node(1, 0)", check.store.node(1, 0), -1000);
        check.due("letter(1, 0)", check.store.letter(1, 0), 0);
        check.due("label(1, 0)", check.store.label(1, 0), 0);
    }

    private static void writtenOut() {
        check.beginWith("written", "<a x=\"1\" b=\"\"><b></b>t<c><d>u</d></c><!--v--></a>");
        check.due("length()", check.store.length(), 46);
        check.dueDocument("<a x=\"1\" b=\"\"><b/>t<c><d>u</d></c><!--v--></a>");
        int[] beyond = {-1, 46, 47, 1000, Integer.MIN_VALUE, Integer.MAX_VALUE};
        for (int k : beyond) {
            check.due("written(" + k + ")", check.store.written(k), 0);
        }
        check.due("remove(5)", check.store.remove(5), 1);
        check.due("remove(4)", check.store.remove(4), 1);
        check.dueDocument("<a x=\"1\" b=\"\"><b/>t<c/><!--v--></a>");
        check.dueLoad("<a><a><a><a><a><a>x</a></a></a></a></a></a>", 7);
        check.dueDocument("<a><a><a><a><a><a>x</a></a></a></a></a></a>");
    }

    private static void writtenEntities() {
        check.beginWith("written entities", "<a x=\"&amp;&lt;&gt;&quot;&apos;\">&amp;&lt;&gt;&quot;&apos;<!--&<>\"'--></a>");
        check.dueDocument("<a x=\"&amp;&lt;>&quot;'\">&amp;&lt;&gt;\"'<!--&<>\"'--></a>");
        check.due("length()", check.store.length(), 56);
        check.dueReplace("&<>\"'&amp;", 1, true);
        check.dueDocument("<a x=\"&amp;&lt;>&quot;'\">&amp;&lt;&gt;\"'&amp;amp;<!--&<>\"'--></a>");
    }
}
