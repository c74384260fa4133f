/** The edges of batches, refused calls and of what can be asked: promises 1, 2 and 7 to 18, a method for each sentence. */
final class StateEdgesTest {
    private static final Check check = new Check();
    private static final int[] FAR = {-1, -2, 200, 256, 65536, Integer.MIN_VALUE, Integer.MAX_VALUE};
    private static final String FULL = "<a>" + "x<b/>".repeat(19) + "x</a>";

    public static void main(String[] args) {
        nothingIsLoaded();
        bufferIsEmptyAtFirst();
        typeChangesNothing();
        batchAtFirst();
        batchBegunByALoad();
        batchBegunByACommit();
        batchBegunByACrash();
        loadThatIsRefusedEndsNoBatch();
        crashGivesBackTheTree();
        numbersAreNotUsedAgain();
        bufferIsLeftEmpty();
        bufferIsLeftEmptyWhenRefused();
        bufferStaysWithOtherCalls();
        refusedChangesNothingElse();
        queryMissing();
        queryBeforeItsError();
        resultUntilTheNextQuery();
        resultInTheOrderOfTheDocument();
        resultIfNotThereAnyMore();
        resultOfNone();
        commitCounts();
        crashCounts();
        crashAndTheBuffer();
        kindMissing();
        nodeParentOfTheRoot();
        nodeOfAnother();
        nodePlaces();
        letterOfNone();
        labelOfNone();
        rootMissing();
        nodesThere();
        lengthOfNothing();
        lengthOfElements();
        lengthOfEntities();
        writtenOfNone();
        longestDocument();
        check.end("StateEdgesTest");
    }

    /** "Nothing is loaded"; MISSING: "There is no such node, or nothing was loaded." */
    private static void nothingIsLoaded() {
        check.begin("nothing is loaded");
        check.due("MISSING", MarkupStore.MISSING, -1000);
        check.due("REFUSED", MarkupStore.REFUSED, -2000);
        check.due("root()", check.store.root(), -1000);
        check.due("nodes()", check.store.nodes(), 0);
        check.due("kind(0)", check.store.kind(0), -1000);
        for (int what = 0; what < 7; what++) {
            check.due("node(0, " + what + ")", check.store.node(0, what), -1000);
        }
        check.due("letter(0, 0)", check.store.letter(0, 0), 0);
        check.due("label(0, 0)", check.store.label(0, 0), 0);
        check.due("result(0)", check.store.result(0), -1000);
        check.due("length()", check.store.length(), 0);
        check.due("written(0)", check.store.written(0), 0);
        check.due("remove(0)", check.store.remove(0), -1000);
        check.dueInsert("<a/>", 0, 2, -1000);
        check.dueReplace("a", 0, false);
        check.dueQueryAnswer("/a", 0, -1000);
        check.dueLoad("<a", -3);
        check.due("root() behind a refused load", check.store.root(), -1000);
    }

    /** "the buffer is empty" */
    private static void bufferIsEmptyAtFirst() {
        check.begin("buffer at first");
        check.dueEmptyBuffer("a new object");
        check.begin("another object's buffer");
        check.type("<a/>");
        new MarkupStore().type('x');
        check.due("load()", check.store.load(), 1);
    }

    /** "false, changing nothing, when it is not 32 .. 126 or 120 are there" */
    private static void typeChangesNothing() {
        check.beginWith("type", "<a>t</a>");
        check.due("type(31)", check.store.type((char) 31), false);
        check.due("type(127)", check.store.type((char) 127), false);
        check.dueEmptyBuffer("two wrong characters");
        check.type("x".repeat(20));
        check.due("type(10)", check.store.type('\n'), false);
        check.due("replace(1)", check.store.replace(1), true);
        check.dueWords(1, "x".repeat(20));
        check.type("*" + "[1]".repeat(39) + "[$");
        check.due("type(']') at 120", check.store.type(']'), false);
        check.due("query(0): 120 are there", check.store.query(0), -121);
    }

    /** "or, ahead of any, at first" */
    private static void batchAtFirst() {
        check.begin("batch at first");
        check.due("commit()", check.store.commit(), 0);
        check.begin("batch at first, crash");
        check.due("crash()", check.store.crash(), 0);
        check.due("nodes()", check.store.nodes(), 0);
        check.dueLoad("<a>t</a>", 2);
        check.due("crash(): the load stays", check.store.crash(), 0);
        check.due("nodes()", check.store.nodes(), 2);
    }

    /** "the one begun by the latest load (which ends one that was open)" */
    private static void batchBegunByALoad() {
        check.beginWith("batch of a load", "<a>t</a>");
        check.dueReplace("u", 1, true);
        check.dueLoad("<b>v</b>", 2);
        check.dueReplace("w", 3, true);
        check.due("crash()", check.store.crash(), 1);
        check.dueDocument("<b>v</b>");
        check.due("root()", check.store.root(), 2);
        check.dueReplace("w", 3, true);
        check.dueReplace("x", 3, true);
        check.dueLoad("<c/>", 1);
        check.due("commit()", check.store.commit(), 0);
    }

    /** ".. commit" */
    private static void batchBegunByACommit() {
        check.beginWith("batch of a commit", "<a>t</a>");
        check.dueReplace("u", 1, true);
        check.due("commit()", check.store.commit(), 1);
        check.due("crash() of none", check.store.crash(), 0);
        check.dueDocument("<a>u</a>");
        check.dueReplace("v", 1, true);
        check.dueInsert("<b/>", 0, 2, 2);
        check.due("crash()", check.store.crash(), 2);
        check.dueDocument("<a>u</a>");
    }

    /** ".. or crash" */
    private static void batchBegunByACrash() {
        check.beginWith("batch of a crash", "<a>t</a>");
        check.dueReplace("u", 1, true);
        check.due("crash()", check.store.crash(), 1);
        check.dueInsert("<b/>", 0, 2, 2);
        check.due("crash() again", check.store.crash(), 1);
        check.dueDocument("<a>t</a>");
        check.due("crash() of none", check.store.crash(), 0);
        check.dueReplace("v", 1, true);
        check.due("commit()", check.store.commit(), 1);
        check.due("crash() behind commit", check.store.crash(), 0);
        check.dueDocument("<a>v</a>");
    }

    /** A load that is refused is a call that changes nothing: the batch stays open. */
    private static void loadThatIsRefusedEndsNoBatch() {
        check.beginWith("refused load", "<a>t</a>");
        check.dueReplace("u", 1, true);
        check.dueLoad("<b>", -4);
        check.dueLoad("", -1);
        check.dueLoad("<b>012345678901234567890</b>", -2000);
        check.dueReplace("v", 1, true);
        check.due("crash()", check.store.crash(), 2);
        check.dueDocument("<a>t</a>");
    }

    /** "A crash gives back the tree as it was when its batch began" */
    private static void crashGivesBackTheTree() {
        check.beginWith("gives back", "<a x=\"1\">12<b>x<c/></b>34<!--d--><e>f</e></a>");
        check.dueInsert("<g/>", 1, 0, 9);
        check.dueQuery("E.", 0, 0, 9, 1, 2, 3, 4, 5, 6, 7, 8);
        check.due("commit()", check.store.commit(), 1);
        String before = check.state();
        check.dueReplace("z", 0, true);
        check.dueReplace("z", 3, true);
        check.dueReplace("z", 6, true);
        check.due("remove(2)", check.store.remove(2), 4);
        check.due("remove(7)", check.store.remove(7), 2);
        check.due("remove(9)", check.store.remove(9), 1);
        check.dueInsert("56", 0, 2, 1);
        check.dueInsert("<h>i</h>", 0, 3, 10);
        check.dueReplace("j", 11, true);
        check.due("remove(11)", check.store.remove(11), 1);
        check.due("crash()", check.store.crash(), 10);
        check.due("state", check.state(), before);
    }

    /** "(numbers of nodes made since are not used again)" */
    private static void numbersAreNotUsedAgain() {
        check.beginWith("numbers", "<a/>");
        check.dueInsert("<b>t</b>", 0, 2, 1);
        check.due("crash()", check.store.crash(), 1);
        check.due("kind(1)", check.store.kind(1), -1000);
        check.dueInsert("<c/>", 0, 2, 3);
        check.due("remove(3)", check.store.remove(3), 1);
        check.dueInsert("<c/>", 0, 2, 4);
        check.due("crash()", check.store.crash(), 3);
        check.dueLoad("<d/>", 1);
        check.due("root()", check.store.root(), 5);
    }

    /** "Every call that uses the buffer leaves it empty" */
    private static void bufferIsLeftEmpty() {
        check.begin("buffer is left empty");
        check.dueLoad("<a>t</a>", 2);
        check.dueEmptyBuffer("load");
        check.dueInsert("<b/>", 0, 3, 2);
        check.dueEmptyBuffer("insert");
        check.dueInsert("u", 1, 1, 1);
        check.dueEmptyBuffer("insert of a text that is joined");
        check.dueReplace("v", 1, true);
        check.dueEmptyBuffer("replace");
        check.dueQuery("*", 0, 2);
        check.dueEmptyBuffer("query");
    }

    /** "also if it is refused" */
    private static void bufferIsLeftEmptyWhenRefused() {
        check.beginWith("buffer of a refused call", "<a>t<!--c--></a>");
        check.dueLoad("<b", -3);
        check.dueEmptyBuffer("load of an error");
        check.dueLoad("<b>012345678901234567890</b>", -2000);
        check.dueEmptyBuffer("load past the limits");
        check.dueInsert("<b/>", 9, 0, -1000);
        check.dueEmptyBuffer("insert at none");
        check.dueInsert("<b/>", 0, 4, -2000);
        check.dueEmptyBuffer("insert with another where");
        check.dueInsert("<b/>", 0, 0, -2000);
        check.dueEmptyBuffer("insert before the root");
        check.dueInsert("<b/>", 1, 2, -2000);
        check.dueEmptyBuffer("insert into a text");
        check.dueInsert("<b", 0, 2, -3);
        check.dueEmptyBuffer("insert of an error");
        check.dueInsert("<!--012345678901234567890-->", 0, 2, -2000);
        check.dueEmptyBuffer("insert past the limits");
        check.dueInsert("01234567890123456789", 1, 0, -2000);
        check.dueEmptyBuffer("insert of a text that gets too long");
        check.dueReplace("x", 9, false);
        check.dueEmptyBuffer("replace of none");
        check.dueReplace("X", 0, false);
        check.dueEmptyBuffer("replace by no NAME");
        check.dueReplace("-", 2, false);
        check.dueEmptyBuffer("replace of a comment by -");
        check.dueReplace("012345678901234567890", 1, false);
        check.dueEmptyBuffer("replace by more than 20");
        check.dueQueryAnswer("*", 9, -1000);
        check.dueEmptyBuffer("query from none");
        check.dueQueryAnswer("*]", 0, -2);
        check.dueEmptyBuffer("query of an error");
    }

    /** The calls that use no buffer leave it as it is: "(the buffer stays)" of commit, and all that ask. */
    private static void bufferStaysWithOtherCalls() {
        check.beginWith("buffer stays", "<a>t<b/></a>");
        check.type("<");
        check.due("commit()", check.store.commit(), 0);
        check.type("c");
        check.due("remove(2)", check.store.remove(2), 1);
        check.due("remove(0)", check.store.remove(0), -2000);
        check.due("remove(9)", check.store.remove(9), -1000);
        check.type(">");
        check.state();
        check.due("root()", check.store.root(), 0);
        check.type("u</c>");
        check.due("load()", check.store.load(), 2);
        check.dueDocument("<c>u</c>");
    }

    /** "A call that is refused changes nothing else." */
    private static void refusedChangesNothingElse() {
        check.beginWith("refused changes nothing", "<a>0123456789<b/>0123456789<!--c--></a>");
        check.dueInsert("x", 1, 0, 1);
        check.dueInsert("<d/>", 2, 2, 5);
        check.dueQuery("D*", 0, 2, 5);
        String before = check.state();
        check.dueLoad("<q>", -4);
        check.dueLoad("<q x=\"\" y=\"\" z=\"\" w=\"\"/>", -2000);
        check.dueInsert("<q/>", 9, 0, -1000);
        check.dueInsert("<q/>", 0, 1, -2000);
        check.dueInsert("<q/>", 1, 3, -2000);
        check.dueInsert("<q/>", 2, 4, -2000);
        check.dueInsert("<q>", 2, 3, -4);
        check.dueInsert("<q/><q/>", 2, 3, -5);
        check.dueInsert("<q x=\"\" y=\"\" z=\"\" w=\"\"/>", 2, 3, -2000);
        check.dueInsert("0123456789", 1, 1, -2000);
        check.due("remove(0)", check.store.remove(0), -2000);
        check.due("remove(9)", check.store.remove(9), -1000);
        check.due("remove(2)", check.store.remove(2), -2000);
        check.dueReplace("q", 9, false);
        check.dueReplace("Q", 0, false);
        check.dueReplace("q-", 4, false);
        check.dueReplace("", 1, false);
        check.dueQueryAnswer(".", 9, -1000);
        check.dueQueryAnswer(".[", 0, -3);
        check.due("state", check.state(), before);
        check.dueInsert("<e/>", 0, 3, 6);
        check.due("crash()", check.store.crash(), 3);
        check.dueDocument("<a>0123456789<b/>0123456789<!--c--></a>");
    }

    /** "MISSING when node i is not there" */
    private static void queryMissing() {
        check.beginWith("query missing", "<a>t</a>");
        for (int i : FAR) {
            check.dueQueryAnswer("/a", i, -1000);
        }
        check.dueQueryAnswer("/a", 2, -1000);
        check.due("remove(1)", check.store.remove(1), 1);
        check.dueQueryAnswer("/a", 1, -1000);
        check.dueQuery("/a", 0, 0);
    }

    /** The same "; -1 - the place of the first error": in this order. */
    private static void queryBeforeItsError() {
        check.beginWith("query's error", "<a>t</a>");
        check.dueQueryAnswer("", 2, -1000);
        check.dueQueryAnswer("[", 2, -1000);
        check.dueQueryAnswer("", 1, -1);
        check.dueQueryAnswer("[", 1, -1);
    }

    /** "the RESULT .. until the next query that is not refused (also behind a load)" */
    private static void resultUntilTheNextQuery() {
        check.beginWith("result", "<a>t<b/></a>");
        check.dueQuery(".", 0, 1, 2);
        check.dueQueryAnswer(".]", 0, -2);
        check.dueQueryAnswer(".", 7, -1000);
        check.due("result(1) behind refused queries", check.store.result(1), 2);
        check.dueLoad("<c/>", 1);
        check.due("result(1) behind a load", check.store.result(1), 2);
        check.due("commit()", check.store.commit(), 0);
        check.due("result(0) behind a commit", check.store.result(0), 1);
        check.due("crash()", check.store.crash(), 0);
        check.due("result(0) behind a crash", check.store.result(0), 1);
        check.dueQuery("S.", 3, 3);
        check.dueQuery("D.", 3);
        check.due("result(0) behind a query that leads to none", check.store.result(0), -1000);
    }

    /** "the RESULT, in the order of the document": not of the numbers, nor of the axis. */
    private static void resultInTheOrderOfTheDocument() {
        check.beginWith("result's order", "<a><b/><c/></a>");
        check.dueInsert("<d/>", 1, 0, 3);
        check.dueInsert("<e/>", 1, 1, 4);
        check.dueQuery(".", 0, 3, 1, 4, 2);
        check.dueQuery("L.", 2, 3, 1, 4);
        check.dueQuery("c/R.", 0, 3, 1, 4);
        check.dueQuery("c/L./B.", 0, 0, 3, 1, 4);
    }

    /** "The number of the k-th node (from 0 on) of the result (also if it is not there any more)" */
    private static void resultIfNotThereAnyMore() {
        check.beginWith("result not there", "<a><b/></a>");
        check.dueInsert("<c/>", 0, 3, 2);
        check.dueQuery("*", 0, 1, 2);
        check.due("remove(1)", check.store.remove(1), 1);
        check.due("result(0)", check.store.result(0), 1);
        check.due("result(1)", check.store.result(1), 2);
        check.due("crash()", check.store.crash(), 2);
        check.due("kind(2)", check.store.kind(2), -1000);
        check.due("result(1)", check.store.result(1), 2);
        check.due("result(2)", check.store.result(2), -1000);
    }

    /** "MISSING when there is none" */
    private static void resultOfNone() {
        check.beginWith("result of none", FULL);
        check.due("result(0) ahead of a query", check.store.result(0), -1000);
        check.dueQueryAnswer("/D.", 0, 40);
        check.due("result(0)", check.store.result(0), 0);
        check.due("result(39)", check.store.result(39), 39);
        check.due("result(40)", check.store.result(40), -1000);
        for (int k : FAR) {
            check.due("result(" + k + ")", check.store.result(k), -1000);
        }
        check.dueQuery("/a", 0, 0);
        check.due("result(1)", check.store.result(1), -1000);
    }

    /** "answers how many changes (insert, remove, replace, not refused) it had" */
    private static void commitCounts() {
        check.beginWith("commit", "<a>t<b/></a>");
        check.due("commit() of none", check.store.commit(), 0);
        check.dueInsert("<c><d/></c>", 0, 3, 3);
        check.dueInsert("u", 1, 1, 1);
        check.due("remove(3)", check.store.remove(3), 2);
        check.dueReplace("v", 1, true);
        check.dueReplace("v", 1, true);
        check.dueInsert("<c", 0, 3, -3);
        check.due("remove(3)", check.store.remove(3), -1000);
        check.dueReplace("", 1, false);
        check.dueQuery("*", 0, 2);
        check.due("commit()", check.store.commit(), 5);
        check.due("commit() again", check.store.commit(), 0);
        check.dueDocument("<a>v<b/></a>");
    }

    /** crash: "answers how many changes it had" */
    private static void crashCounts() {
        check.beginWith("crash", "<a>t<b/></a>");
        check.due("crash() of none", check.store.crash(), 0);
        check.dueInsert("u", 1, 1, 1);
        check.due("remove(2)", check.store.remove(2), 1);
        check.dueReplace("", 1, false);
        check.due("crash()", check.store.crash(), 2);
        check.due("crash() again", check.store.crash(), 0);
        check.due("commit()", check.store.commit(), 0);
    }

    /** "The buffer becomes empty; the result stays." */
    private static void crashAndTheBuffer() {
        check.beginWith("crash and buffer", "<a>t</a>");
        check.dueQuery("#", 0, 1);
        check.type("<b/>");
        check.due("crash()", check.store.crash(), 0);
        check.dueEmptyBuffer("crash");
        check.due("result(0)", check.store.result(0), 1);
        check.type("x".repeat(120));
        check.due("crash()", check.store.crash(), 0);
        check.due("type behind it", check.store.type('x'), true);
    }

    /** kind: "MISSING when it is not there" */
    private static void kindMissing() {
        check.beginWith("kind", "<a>t<!--c--></a>");
        check.due("kind(0)", check.store.kind(0), 1);
        check.due("kind(1)", check.store.kind(1), 2);
        check.due("kind(2)", check.store.kind(2), 3);
        check.due("kind(3)", check.store.kind(3), -1000);
        for (int i : FAR) {
            check.due("kind(" + i + ")", check.store.kind(i), -1000);
        }
        check.due("remove(2)", check.store.remove(2), 1);
        check.due("kind(2)", check.store.kind(2), -1000);
    }

    /** "0 its parent (NONE is answered as -1 for the root)" */
    private static void nodeParentOfTheRoot() {
        check.beginWith("parent", "<a><b/></a>");
        check.due("node(0, 0)", check.store.node(0, 0), -1);
        check.due("node(1, 0)", check.store.node(1, 0), 0);
        check.dueLoad("<a><b/></a>", 2);
        check.due("node(2, 0)", check.store.node(2, 0), -1);
        check.due("node(3, 0)", check.store.node(3, 0), 2);
    }

    /** node: "MISSING when it is not there or for another what" */
    private static void nodeOfAnother() {
        check.beginWith("another what", "<a>t</a>");
        int[] others = {-1, 7, 8, 256, 65536, Integer.MIN_VALUE, Integer.MAX_VALUE};
        for (int what : others) {
            check.due("node(0, " + what + ")", check.store.node(0, what), -1000);
        }
        for (int what = -1; what < 8; what++) {
            check.due("node(2, " + what + ")", check.store.node(2, what), -1000);
            for (int i : FAR) {
                check.due("node(" + i + ", " + what + ")", check.store.node(i, what), -1000);
            }
        }
    }

    /** "1 how many children it has, 2 its place among its siblings (from 0 on), .. 6 its place in the document (from 0 on)" */
    private static void nodePlaces() {
        check.beginWith("places", FULL);
        check.due("node(0, 1)", check.store.node(0, 1), 39);
        check.due("node(0, 2)", check.store.node(0, 2), 0);
        check.due("node(0, 6)", check.store.node(0, 6), 0);
        check.due("node(39, 1)", check.store.node(39, 1), 0);
        check.due("node(39, 2)", check.store.node(39, 2), 38);
        check.due("node(39, 6)", check.store.node(39, 6), 39);
        check.due("remove(1)", check.store.remove(1), 1);
        check.due("node(39, 2)", check.store.node(39, 2), 37);
        check.due("node(39, 6)", check.store.node(39, 6), 38);
        check.dueInsert("<c/>", 2, 2, 40);
        check.due("node(2, 1)", check.store.node(2, 1), 1);
        check.due("node(40, 2)", check.store.node(40, 2), 0);
        check.due("node(39, 2)", check.store.node(39, 2), 37);
        check.due("node(39, 6)", check.store.node(39, 6), 39);
        check.due("node(0, 1): a child's child is none", check.store.node(0, 1), 38);
    }

    /** "The k-th character (from 0 on) of the name or value of node i; 0 when there is none." */
    private static void letterOfNone() {
        check.beginWith("letter", "<abcdef>01234567890123456789<!----></abcdef>");
        check.due("letter(0, 0)", check.store.letter(0, 0), 'a');
        check.due("letter(0, 5)", check.store.letter(0, 5), 'f');
        check.due("letter(0, 6)", check.store.letter(0, 6), 0);
        check.due("letter(1, 19)", check.store.letter(1, 19), '9');
        check.due("letter(1, 20)", check.store.letter(1, 20), 0);
        check.due("letter(2, 0)", check.store.letter(2, 0), 0);
        for (int k : FAR) {
            check.due("letter(1, " + k + ")", check.store.letter(1, k), 0);
            check.due("letter(" + k + ", 0)", check.store.letter(k, 0), 0);
        }
        check.dueReplace("x", 1, true);
        check.due("letter(1, 1)", check.store.letter(1, 1), 0);
        check.due("remove(1)", check.store.remove(1), 1);
        check.due("letter(1, 0)", check.store.letter(1, 0), 0);
    }

    /** "The k-th number (from 0 on) of the label of node i; 0 when there is none." */
    private static void labelOfNone() {
        check.beginWith("label", "<a><b/></a>");
        check.due("label(1, 0)", check.store.label(1, 0), 1);
        check.due("label(1, 1)", check.store.label(1, 1), 1);
        check.due("label(1, 2)", check.store.label(1, 2), 0);
        check.due("label(0, 1)", check.store.label(0, 1), 0);
        for (int k : FAR) {
            check.due("label(1, " + k + ")", check.store.label(1, k), 0);
            check.due("label(" + k + ", 0)", check.store.label(k, 0), 0);
        }
        check.due("remove(1)", check.store.remove(1), 1);
        check.due("label(1, 0)", check.store.label(1, 0), 0);
    }

    /** "The number of the root; MISSING when nothing is loaded." */
    private static void rootMissing() {
        check.begin("root");
        check.due("root()", check.store.root(), -1000);
        check.due("crash()", check.store.crash(), 0);
        check.due("root()", check.store.root(), -1000);
        check.dueLoad("<a>t</a>", 2);
        check.due("root()", check.store.root(), 0);
        check.dueLoad("<b/>", 1);
        check.due("root()", check.store.root(), 2);
        check.dueReplace("c", 2, true);
        check.due("root()", check.store.root(), 2);
    }

    /** "How many nodes are there.": from none to the most */
    private static void nodesThere() {
        check.begin("nodes");
        check.due("nodes()", check.store.nodes(), 0);
        check.dueLoad(FULL, 40);
        check.due("nodes()", check.store.nodes(), 40);
        check.due("remove(2): with a text that is joined", check.store.remove(2), 2);
        check.due("nodes()", check.store.nodes(), 38);
        check.dueInsert("y", 1, 1, 1);
        check.due("nodes()", check.store.nodes(), 38);
        check.due("crash()", check.store.crash(), 2);
        check.due("nodes()", check.store.nodes(), 40);
    }

    /** "0 when nothing is loaded" */
    private static void lengthOfNothing() {
        check.begin("length of nothing");
        check.due("length()", check.store.length(), 0);
        check.dueLoad("<a", -3);
        check.due("length()", check.store.length(), 0);
        check.dueLoad("<a/>", 1);
        check.due("length()", check.store.length(), 4);
    }

    /** "elements with a space before each attribute, as /> when they have no children" */
    private static void lengthOfElements() {
        check.beginWith("elements", "<a x=\"\" y=\"1\" z=\"\"><b></b><c>t</c><!----></a>");
        check.dueDocument("<a x=\"\" y=\"1\" z=\"\"><b/><c>t</c><!----></a>");
        check.due("remove(3)", check.store.remove(3), 1);
        check.dueDocument("<a x=\"\" y=\"1\" z=\"\"><b/><c/><!----></a>");
        check.dueInsert("<!---->", 1, 2, 5);
        check.dueDocument("<a x=\"\" y=\"1\" z=\"\"><b><!----></b><c/><!----></a>");
        check.dueLoad("<a></a>", 1);
        check.dueDocument("<a/>");
        check.due("length()", check.store.length(), 4);
    }

    /** "in values of TEXTS & < > as &amp; &lt; &gt; , in those of attributes & < " as &amp; &lt; &quot;" */
    private static void lengthOfEntities() {
        check.beginWith("entities", "<a x=\"&amp;&lt;&gt;&quot;&apos;\">&amp;&lt;&gt;&quot;&apos;<!--x--></a>");
        check.dueDocument("<a x=\"&amp;&lt;>&quot;'\">&amp;&lt;&gt;\"'<!--x--></a>");
        check.dueReplace("&<>\"'", 2, true);
        check.dueDocument("<a x=\"&amp;&lt;>&quot;'\">&amp;&lt;&gt;\"'<!--&<>\"'--></a>");
        check.due("length()", check.store.length(), 56);
    }

    /** "The k-th character (from 0 on) of that; 0 when there is none." */
    private static void writtenOfNone() {
        check.beginWith("written", "<a>t</a>");
        check.due("written(0)", check.store.written(0), '<');
        check.due("written(7)", check.store.written(7), '>');
        check.due("written(8)", check.store.written(8), 0);
        for (int k : FAR) {
            check.due("written(" + k + ")", check.store.written(k), 0);
        }
    }

    /** What is written may be longer than any text that was read. */
    private static void longestDocument() {
        check.beginWith("longest", FULL);
        String value = "&".repeat(20);
        StringBuilder due = new StringBuilder("<abcdef>");
        check.dueReplace("abcdef", 0, true);
        for (int i = 1; i < 40; i++) {
            check.dueReplace(i % 2 == 1 ? value : "ghijkl", i, true);
            due.append(i % 2 == 1 ? "&amp;".repeat(20) : "<ghijkl/>");
        }
        due.append("</abcdef>");
        check.due("length()", check.store.length(), 2188);
        check.dueDocument(due.toString());
        check.due("written(2187)", check.store.written(2187), '>');
        check.due("written(2188)", check.store.written(2188), 0);
    }
}
