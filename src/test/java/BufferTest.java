/** Promises 1 and 2: a new object, and type; and that every call that uses the buffer empties it. */
final class BufferTest {
    private static final Check check = new Check();

    public static void main(String[] args) {
        newObject();
        characters();
        fullBuffer();
        usedBuffer();
        check.end("BufferTest");
    }

    private static void newObject() {
        check.begin("new object");
        MarkupStore store = check.store;
        check.due("MISSING", MarkupStore.MISSING, -1000);
        check.due("REFUSED", MarkupStore.REFUSED, -2000);
        check.due("root()", store.root(), -1000);
        check.due("nodes()", store.nodes(), 0);
        check.due("length()", store.length(), 0);
        check.due("written(0)", store.written(0), 0);
        check.due("kind(0)", store.kind(0), -1000);
        check.due("node(0, 0)", store.node(0, 0), -1000);
        check.due("letter(0, 0)", store.letter(0, 0), 0);
        check.due("label(0, 0)", store.label(0, 0), 0);
        check.due("result(0)", store.result(0), -1000);
        check.due("commit()", store.commit(), 0);
        check.due("crash()", store.crash(), 0);
        check.due("load() of the empty buffer", store.load(), -1);
        check.due("insert(0, 0)", store.insert(0, 0), -1000);
        check.due("remove(0)", store.remove(0), -1000);
        check.due("replace(0)", store.replace(0), false);
        check.due("query(0)", store.query(0), -1000);
    }

    private static void characters() {
        check.begin("characters");
        int[] wrong = {0, 9, 10, 31, 127, 128, 160, 255, 256, 8364, 65535};
        for (int c : wrong) {
            check.due("type(" + c + ")", check.store.type((char) c), false);
        }
        check.dueLoad("<a/>", 1);
        check.dueInsert("x", 0, 2, 1);
        for (int c = 32; c <= 126; c++) {
            check.due("type(" + c + ")", check.store.type((char) c), true);
            check.due("replace by " + c, check.store.replace(1), true);
            check.due("letter of " + c, check.store.letter(1, 0), c);
        }
    }

    private static void fullBuffer() {
        check.begin("full buffer");
        String head = "<a>" + "<b>12345678</b>".repeat(7);
        check.due("length of the head", head.length(), 108);
        check.type(head);
        check.type("123456789");
        for (int k = 117; k < 119; k++) {
            check.due("type at " + k, check.store.type('x'), true);
        }
        check.due("type of a wrong one at 119", check.store.type('\n'), false);
        check.due("type at 119", check.store.type('<'), true);
        check.due("type at 120", check.store.type('/'), false);
        check.due("type of a wrong one at 120", check.store.type('\n'), false);
        check.due("load: the end is behind the 120th", check.store.load(), -121);
        check.due("type behind load", check.store.type('x'), true);
    }

    private static void usedBuffer() {
        check.beginWith("used buffer", "<a>t</a>");
        MarkupStore store = check.store;
        check.dueLoad("<a>", -4);
        check.dueLoad("<q x=\"\" b=\"\" c=\"\" d=\"\"/>", -2000);
        check.dueInsert("<b/>", 7, 3, -1000);
        check.dueInsert("<b/>", 0, 9, -2000);
        check.dueInsert("<b", 0, 3, -3);
        check.dueReplace("word", 7, false);
        check.dueReplace("WORD", 0, false);
        check.dueQueryAnswer("#", 7, -1000);
        check.dueQueryAnswer("#[", 0, -3);
        check.dueQuery("#", 0, 1);
        check.dueInsert("<c/>", 0, 3, 2);
        check.dueReplace("u", 1, true);
        check.dueDocument("<a>u<c/></a>");
        check.due("replace with nothing typed", store.replace(1), false);
        check.due("query with nothing typed", store.query(0), -1);
        check.due("insert with nothing typed", store.insert(0, 3), -1);
        check.due("load with nothing typed", store.load(), -1);
    }
}
