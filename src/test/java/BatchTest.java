/** Promises 9 and 10: commit and crash. */
final class BatchTest {
    private static final Check check = new Check();

    public static void main(String[] args) {
        counts();
        crashGivesBack();
        crashAfterCommit();
        loadBeginsABatch();
        numbersAreNotUsedAgain();
        nothingLoaded();
        buffers();
        check.end("BatchTest");
    }

    private static void counts() {
        check.beginWith("counts", "<a>t<b/></a>");
        check.due("commit() of nothing", check.store.commit(), 0);
        check.dueInsert("<c/>", 0, 3, 3);
        check.dueInsert("u", 1, 1, 1);
        check.dueReplace("v", 1, true);
        check.due("remove(2)", check.store.remove(2), 1);
        check.dueQuery("*", 0, 3);
        check.dueInsert("<", 0, 3, -2);
        check.dueReplace("", 1, false);
        check.due("remove(0)", check.store.remove(0), -2000);
        check.due("remove(9)", check.store.remove(9), -1000);
        check.dueLoad("<q", -3);
        check.due("commit()", check.store.commit(), 4);
        check.due("commit() again", check.store.commit(), 0);
        check.due("crash() behind commit", check.store.crash(), 0);
        check.dueDocument("<a>v<c/></a>");
        check.due("remove(3)", check.store.remove(3), 1);
        check.due("crash()", check.store.crash(), 1);
        check.due("crash() again", check.store.crash(), 0);
        check.due("commit() behind crash", check.store.commit(), 0);
    }

    private static void crashGivesBack() {
        String document = "<a x=\"1\">12<b>x<c/></b>34<!--d--><e/></a>";
        check.beginWith("crash gives back", document);
        check.dueReplace("z", 0, true);
        check.dueReplace("z", 2, true);
        check.dueReplace("z", 6, true);
        check.dueInsert("0", 1, 0, 1);
        check.due("remove(2)", check.store.remove(2), 4);
        check.dueInsert("<f>g</f>", 1, 1, 8);
        check.dueReplace("h", 9, true);
        check.due("remove(7)", check.store.remove(7), 1);
        check.dueDocument("<z x=\"1\">01234<f>h</f><!--z--></z>");
        check.due("crash()", check.store.crash(), 8);
        check.dueDocument(document);
        check.due("nodes()", check.store.nodes(), 8);
        check.due("kind(8)", check.store.kind(8), -1000);
        check.due("kind(9)", check.store.kind(9), -1000);
        check.due("letter(9, 0)", check.store.letter(9, 0), 0);
        for (int i = 0; i < 8; i++) {
            check.due("node(" + i + ", 6)", check.store.node(i, 6), i);
        }
        check.dueLabel(5, 1, 5);
        check.dueLabel(4, 1, 3, 3);
    }

    private static void crashAfterCommit() {
        check.beginWith("crash after commit", "<a>t</a>");
        check.dueReplace("u", 1, true);
        check.dueInsert("<b/>", 0, 3, 2);
        check.due("commit()", check.store.commit(), 2);
        check.dueReplace("v", 1, true);
        check.due("remove(2)", check.store.remove(2), 1);
        check.due("crash()", check.store.crash(), 2);
        check.dueDocument("<a>u<b/></a>");
        check.dueReplace("w", 1, true);
        check.due("crash(): the batch begun by a crash", check.store.crash(), 1);
        check.dueDocument("<a>u<b/></a>");
    }

    private static void loadBeginsABatch() {
        check.beginWith("load begins a batch", "<a/>");
        check.dueInsert("t", 0, 2, 1);
        check.dueLoad("<b>u</b>", 2);
        check.due("commit(): the changes ahead of the load are not counted", check.store.commit(), 0);
        check.dueInsert("<c/>", 2, 3, 4);
        check.dueLoad("<d/>", 1);
        check.due("crash()", check.store.crash(), 0);
        check.dueDocument("<d/>");
        check.due("root()", check.store.root(), 5);
        check.due("kind(2)", check.store.kind(2), -1000);
    }

    private static void numbersAreNotUsedAgain() {
        check.beginWith("numbers", "<a/>");
        check.dueInsert("<b>t</b>", 0, 2, 1);
        check.due("crash()", check.store.crash(), 1);
        check.dueInsert("<b/>", 0, 2, 3);
        check.dueLabel(3, 1, 1);
        check.due("kind(1)", check.store.kind(1), -1000);
        check.due("remove(3)", check.store.remove(3), 1);
        check.dueInsert("<b/>", 0, 2, 4);
    }

    private static void nothingLoaded() {
        check.begin("nothing loaded");
        check.due("crash()", check.store.crash(), 0);
        check.due("commit()", check.store.commit(), 0);
        check.due("nodes()", check.store.nodes(), 0);
        check.due("root()", check.store.root(), -1000);
    }

    private static void buffers() {
        check.beginWith("buffers", "<a>t</a>");
        check.type("kept");
        check.due("commit()", check.store.commit(), 0);
        check.dueReplace("!", 1, true);
        check.dueWords(1, "kept!");
        check.type("lost");
        check.due("crash()", check.store.crash(), 1);
        check.dueReplace("!", 1, true);
        check.dueWords(1, "!");
    }
}
