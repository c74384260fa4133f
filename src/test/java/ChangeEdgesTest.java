/** The edges of load, insert, remove and replace: a method for each sentence of promises 3 to 6. */
final class ChangeEdgesTest {
    private static final Check check = new Check();
    private static final String TWENTY = "01234567890123456789";
    private static final int[] NUMBERS_OF_NONE = {-1, -2, 200, 201, 256, 65536, Integer.MIN_VALUE, Integer.MAX_VALUE};

    public static void main(String[] args) {
        loadTakesThePlace();
        loadReckonsThe40Alone();
        loadReckonsThe200OfAll();
        insertBefore();
        insertBehind();
        insertAsFirstChild();
        insertAsLastChild();
        insertTextBesideText();
        insertMissing();
        insertRefusedForWhere();
        insertEmpty();
        insertSecondNode();
        insertFiveOthersFromTheRootOn();
        insertWithAllThatIsThere();
        insertJoinedTextCountsForItsValue();
        insertRefusalsInTheirOrder();
        removeAllInIt();
        removeJoinsTexts();
        removeMissing();
        removeRoot();
        removeValueTooLong();
        replaceAsTheyStand();
        replaceMissing();
        replaceEmptyOrMoreThan20();
        replaceComment();
        replaceElement();
        check.end("ChangeEdgesTest");
    }

    /** "Its tree takes the place of the one before, whose nodes are there no more; numbers go on." */
    private static void loadTakesThePlace() {
        check.begin("load");
        check.dueLoad("<a>t</a>", 2);
        check.dueLoad("<b>u<c/></b>", 3);
        check.due("root()", check.store.root(), 2);
        check.due("nodes()", check.store.nodes(), 3);
        check.due("kind(0)", check.store.kind(0), -1000);
        check.due("kind(1)", check.store.kind(1), -1000);
        check.dueInsert("<d/>", 0, 2, -1000);
        check.due("remove(1)", check.store.remove(1), -1000);
        check.due("node(2, 6)", check.store.node(2, 6), 0);
        check.due("node(4, 6)", check.store.node(4, 6), 2);
        check.due("kind(5)", check.store.kind(5), -1000);
        check.due("crash(): the tree before does not come back", check.store.crash(), 0);
        check.due("root()", check.store.root(), 2);
    }

    /** "(the 40 are those of the new tree alone)" */
    private static void loadReckonsThe40Alone() {
        String full = "<a>" + "x<b/>".repeat(19) + "x</a>";
        check.beginWith("40 alone", full);
        check.dueLoad(full, 40);
        check.due("nodes()", check.store.nodes(), 40);
        check.dueLoad("<a>" + "x<b/>".repeat(20) + "</a>", -2000);
        check.due("root()", check.store.root(), 40);
        check.dueLoad("<a/>", 1);
    }

    /** The 200 are of all that were ever made; the numbers of a text that is refused are not used. */
    private static void loadReckonsThe200OfAll() {
        check.begin("200 of all");
        for (int k = 0; k < 4; k++) {
            check.dueLoad("<a>" + "x<b/>".repeat(19) + "x</a>", 40);
        }
        check.dueLoad("<a x=\"" + TWENTY + "1\"/>", -2000);
        check.dueLoad("<a>" + "x<b/>".repeat(19) + "</a>", 39);
        check.due("root()", check.store.root(), 160);
        check.dueLoad("<a>t</a>", -2000);
        check.due("root()", check.store.root(), 160);
        check.dueLoad("<a/>", 1);
        check.due("root()", check.store.root(), 199);
        check.dueLoad("<a/>", -2000);
        check.due("kind(199)", check.store.kind(199), 1);
        check.due("kind(200)", check.store.kind(200), -1000);
    }

    /** "put before node i (where is 0)" */
    private static void insertBefore() {
        check.beginWith("before", "<a><b>t</b><c/></a>");
        check.dueInsert("<d/>", 1, 0, 4);
        check.dueInsert("<e/>", 3, 0, 5);
        check.dueInsert("<f/>", 2, 0, 6);
        check.dueDocument("<a><d/><b><f/>t</b><e/><c/></a>");
    }

    /** "behind it (1)": behind all that lies in it too */
    private static void insertBehind() {
        check.beginWith("behind", "<a><b>t</b><c/></a>");
        check.dueInsert("<d/>", 1, 1, 4);
        check.dueInsert("<e/>", 3, 1, 5);
        check.dueInsert("<f/>", 2, 1, 6);
        check.dueDocument("<a><b>t<f/></b><d/><c/><e/></a>");
    }

    /** "into it as its first child (2)" */
    private static void insertAsFirstChild() {
        check.beginWith("first child", "<a><b>t</b><c/></a>");
        check.dueInsert("<d/>", 0, 2, 4);
        check.dueInsert("<e/>", 1, 2, 5);
        check.dueInsert("<f/>", 3, 2, 6);
        check.dueDocument("<a><d/><b><e/>t</b><c><f/></c></a>");
    }

    /** "or its last (3)" */
    private static void insertAsLastChild() {
        check.beginWith("last child", "<a><b>t</b><c/></a>");
        check.dueInsert("<d/>", 0, 3, 4);
        check.dueInsert("<e/>", 1, 3, 5);
        check.dueInsert("<f/>", 3, 3, 6);
        check.dueDocument("<a><b>t<e/></b><c><f/></c><d/></a>");
    }

    /** "a TEXT beside a TEXT is not made, but its value comes to the front or the end of that one's. Answers .. of that TEXT." */
    private static void insertTextBesideText() {
        check.beginWith("text beside text", "<a>m<b/></a>");
        check.dueInsert("&lt;", 1, 0, 1);
        check.dueWords(1, "<m");
        check.dueInsert("&gt;", 1, 1, 1);
        check.dueWords(1, "<m>");
        check.dueInsert("1", 0, 2, 1);
        check.dueInsert("2", 2, 0, 1);
        check.dueWords(1, "1<m>2");
        check.due("nodes()", check.store.nodes(), 3);
        check.dueInsert("<!---->", 1, 1, 3);
        check.dueInsert("n", 3, 1, 4);
        check.dueInsert("o", 0, 3, 5);
        check.due("nodes()", check.store.nodes(), 6);
        check.dueDocument("<a>1&lt;m&gt;2<!---->n<b/>o</a>");
        check.beginWith("text beside an element with text", "<a><b>t</b><c>u</c></a>");
        check.dueInsert("v", 3, 0, 5);
        check.dueInsert("w", 0, 2, 6);
        check.dueInsert("x", 0, 3, 7);
        check.dueDocument("<a>w<b>t</b>v<c>u</c>x</a>");
    }

    /** "MISSING when node i is not there" */
    private static void insertMissing() {
        check.begin("insert missing");
        check.dueInsert("<b/>", 0, 2, -1000);
        check.dueLoad("<a>t</a>", 2);
        for (int i : NUMBERS_OF_NONE) {
            check.dueInsert("<b/>", i, 2, -1000);
        }
        check.dueInsert("<b/>", 2, 2, -1000);
        check.due("remove(1)", check.store.remove(1), 1);
        check.dueInsert("<b/>", 1, 1, -1000);
        check.dueInsert("<b/>", 0, 2, 2);
        check.due("crash()", check.store.crash(), 2);
        check.dueInsert("<b/>", 2, 2, -1000);
        check.dueInsert("<b/>", 1, 1, 3);
    }

    /** "then REFUSED when where is another, or is 0 or 1 for the root, or 2 or 3 for a node that is no element" */
    private static void insertRefusedForWhere() {
        check.beginWith("where", "<a>t<!--c--></a>");
        int[] others = {-1, 4, 256, 65536, Integer.MIN_VALUE, Integer.MAX_VALUE};
        for (int where : others) {
            for (int i = 0; i < 3; i++) {
                check.dueInsert("<b/>", i, where, -2000);
            }
        }
        check.dueInsert("<b/>", 0, 0, -2000);
        check.dueInsert("<b/>", 0, 1, -2000);
        for (int i = 1; i < 3; i++) {
            check.dueInsert("<b/>", i, 2, -2000);
            check.dueInsert("<b/>", i, 3, -2000);
        }
        check.due("nodes()", check.store.nodes(), 3);
        check.dueInsert("<b/>", 1, 0, 3);
        check.dueInsert("<b/>", 2, 1, 4);
        check.dueInsert("<b/>", 0, 2, 5);
        check.dueInsert("<b/>", 0, 3, 6);
    }

    /** "(place 0 when it is empty ..)" */
    private static void insertEmpty() {
        check.beginWith("empty", "<a>t</a>");
        check.dueInsert("", 0, 2, -1);
        check.dueInsert("", 1, 1, -1);
    }

    /** "(.. the first character of a second node ..)" */
    private static void insertSecondNode() {
        check.beginWith("second node", "<a/>");
        check.dueInsert("<b/><b/>", 0, 2, -5);
        check.dueInsert("<b></b>t", 0, 2, -8);
        check.dueInsert("<b/> ", 0, 2, -5);
        check.dueInsert("<b/>&lt;", 0, 2, -5);
        check.dueInsert("<b/>&", 0, 2, -5);
        check.dueInsert("<b/><!---->", 0, 2, -5);
        check.dueInsert("<!----><b/>", 0, 2, -8);
        check.dueInsert("<!---->t", 0, 2, -8);
        check.dueInsert("tu<b/>", 0, 2, -3);
        check.dueInsert("t&lt;<!---->", 0, 2, -6);
        check.dueInsert("</a>", 0, 2, -2);
        check.dueInsert("tu&lt;v", 0, 2, 1);
    }

    /** "(.. the 5 others are reckoned from the root on)" */
    private static void insertFiveOthersFromTheRootOn() {
        check.beginWith("5 others", "<a><b><c><d><e><f>t</f></e></d></c></b></a>");
        String[] nested = {"<x/>", "<x><x/></x>", "<x><x><x/></x></x>", "<x><x><x><x/></x></x></x>",
            "<x><x><x><x><x/></x></x></x></x>", "<x><x><x><x><x><x/></x></x></x></x></x>"};
        for (int i = 0; i < 6; i++) {
            check.dueInsert(nested[5 - i], i, 3, -1 - 3 * (5 - i));
        }
        int made = 7;
        for (int i = 0; i < 5; i++) {
            check.dueInsert(nested[4 - i], i, 3, made);
            made += 5 - i;
        }
        check.dueInsert("u<!---->", 5, 3, -2);
        check.dueInsert("u", 5, 3, 6);
        check.dueInsert("<!---->", 5, 3, made);
    }

    /** "then REFUSED when it passes the limits (with all that is there ..)" */
    private static void insertWithAllThatIsThere() {
        check.beginWith("all that is there", "<a>" + "x<b/>".repeat(18) + "x</a>");
        check.dueInsert("<c><d/><e/></c>", 2, 2, -2000);
        check.dueInsert("<c><d/></c>", 2, 2, 38);
        check.dueInsert("<c/>", 2, 2, -2000);
        check.due("remove(38)", check.store.remove(38), 2);
        check.dueInsert("<c>t</c>", 2, 2, 40);
        check.dueInsert("t", 40, 0, -2000);
        check.due("nodes()", check.store.nodes(), 40);
    }

    /** "(.. a TEXT that is not made counts for its value alone, joined)" */
    private static void insertJoinedTextCountsForItsValue() {
        check.beginWith("joined", "<a>" + "x<b/>".repeat(19) + "x</a>");
        check.dueInsert("u".repeat(19), 1, 1, 1);
        check.due("node(1, 4)", check.store.node(1, 4), 20);
        check.dueInsert("v", 1, 1, -2000);
        check.dueInsert("v", 1, 0, -2000);
        check.dueInsert("v", 2, 0, -2000);
        check.dueInsert("v".repeat(20), 39, 0, -2000);
        check.dueInsert("&lt;".repeat(19), 39, 0, 39);
        check.due("node(39, 4)", check.store.node(39, 4), 20);
        check.due("nodes()", check.store.nodes(), 40);
        check.dueWords(1, "x" + "u".repeat(19));
    }

    /** "MISSING ..; then REFUSED ..; then -1 - the place ..; then REFUSED" */
    private static void insertRefusalsInTheirOrder() {
        String long21 = TWENTY + "x";
        check.beginWith("order", "<a>t</a>");
        check.dueInsert("<", 2, 7, -1000);
        check.dueInsert("<", 2, 2, -1000);
        check.dueInsert("", 2, 2, -1000);
        check.dueInsert("<", 0, 7, -2000);
        check.dueInsert("", 0, 0, -2000);
        check.dueInsert("<", 1, 3, -2000);
        check.dueInsert(long21 + "<", 0, 2, -22);
        check.dueInsert(long21 + "&", 1, 0, -22);
        check.dueInsert(long21, 0, 2, -2000);
    }

    /** "Node i and all in it are there no more .. Answers how many nodes are there no more (that one too ..)" */
    private static void removeAllInIt() {
        check.beginWith("all in it", "<a><b><c>t<!--d--></c></b><e/></a>");
        check.due("remove(1)", check.store.remove(1), 4);
        for (int i = 1; i < 5; i++) {
            check.due("kind(" + i + ")", check.store.kind(i), -1000);
            check.due("node(" + i + ", 0)", check.store.node(i, 0), -1000);
        }
        check.due("nodes()", check.store.nodes(), 2);
        check.due("node(5, 6)", check.store.node(5, 6), 1);
        check.due("remove(5)", check.store.remove(5), 1);
        check.dueDocument("<a/>");
    }

    /** "when two TEXTS become neighbours, the value of the right one comes to the end of the left one's, and the right one is there no more" */
    private static void removeJoinsTexts() {
        check.beginWith("joins texts", "<a>1<b>x</b>2<!--c-->3<d/></a>");
        check.due("remove(5)", check.store.remove(5), 2);
        check.dueWords(4, "23");
        check.due("kind(6)", check.store.kind(6), -1000);
        check.due("remove(2)", check.store.remove(2), 3);
        check.dueWords(1, "123");
        check.due("kind(4)", check.store.kind(4), -1000);
        check.due("node(7, 2)", check.store.node(7, 2), 1);
        check.due("remove(7): no text on the right", check.store.remove(7), 1);
        check.due("remove(1)", check.store.remove(1), 1);
        check.beginWith("joins no others", "<a>1<b/><c/>2<d>3</d><e/>4<f><g/></f>5<h/><i>6</i></a>");
        check.due("remove(2): beside an element", check.store.remove(2), 1);
        check.due("remove(7): beside an element with a text in it", check.store.remove(7), 1);
        check.due("remove(10): alone in its element", check.store.remove(10), 1);
        check.due("remove(12): beside an element with a text in it", check.store.remove(12), 1);
        check.dueDocument("<a>1<c/>2<d>3</d>4<f/>5<i>6</i></a>");
    }

    /** "MISSING when it is not there" */
    private static void removeMissing() {
        check.begin("remove missing");
        check.due("remove(0)", check.store.remove(0), -1000);
        check.dueLoad("<a><b/></a>", 2);
        for (int i : NUMBERS_OF_NONE) {
            check.due("remove(" + i + ")", check.store.remove(i), -1000);
        }
        check.due("remove(2)", check.store.remove(2), -1000);
        check.due("remove(1)", check.store.remove(1), 1);
        check.due("remove(1) again", check.store.remove(1), -1000);
        check.due("commit()", check.store.commit(), 1);
    }

    /** "REFUSED when it is the root" */
    private static void removeRoot() {
        check.beginWith("remove the root", "<a/>");
        check.due("remove(0)", check.store.remove(0), -2000);
        check.dueLoad("<b>t</b>", 2);
        check.due("remove(0)", check.store.remove(0), -1000);
        check.due("remove(1)", check.store.remove(1), -2000);
        check.due("nodes()", check.store.nodes(), 2);
        check.due("commit()", check.store.commit(), 0);
    }

    /** "or a value would get too long" */
    private static void removeValueTooLong() {
        check.beginWith("value too long", "<a>0123456789<b/>0123456789<c><d/></c>x</a>");
        check.dueInsert("y", 3, 1, 3);
        String before = check.state();
        check.due("remove(2): 21", check.store.remove(2), -2000);
        check.due("state", check.state(), before);
        check.dueReplace("0123456789", 3, true);
        check.due("remove(2): 20", check.store.remove(2), 2);
        check.dueWords(1, TWENTY);
        check.due("remove(4): 21", check.store.remove(4), -2000);
        check.due("remove(5): not between them", check.store.remove(5), 1);
        check.due("remove(6)", check.store.remove(6), 1);
        check.due("remove(4)", check.store.remove(4), 1);
    }

    /** "its characters, as they stand, become the value of the TEXT or COMMENT i" */
    private static void replaceAsTheyStand() {
        check.beginWith("as they stand", "<a>t<!--c--></a>");
        check.dueReplace("&lt;<b/>--&", 1, true);
        check.dueWords(1, "&lt;<b/>--&");
        check.dueReplace("&lt;<b/>- -&", 2, true);
        check.dueWords(2, "&lt;<b/>- -&");
        check.dueReplace(" ", 1, true);
        check.dueWords(1, " ");
        check.dueReplace("-", 1, true);
        check.dueDocument("<a>-<!--&lt;<b/>- -&--></a>");
    }

    /** "False when node i is not there" */
    private static void replaceMissing() {
        check.begin("replace missing");
        check.dueReplace("x", 0, false);
        check.dueLoad("<a>t</a>", 2);
        for (int i : NUMBERS_OF_NONE) {
            check.dueReplace("x", i, false);
        }
        check.dueReplace("x", 2, false);
        check.due("remove(1)", check.store.remove(1), 1);
        check.dueReplace("x", 1, false);
        check.due("crash()", check.store.crash(), 1);
        check.dueReplace("x", 1, true);
    }

    /** "the buffer is empty or has more than 20" */
    private static void replaceEmptyOrMoreThan20() {
        check.beginWith("empty or more than 20", "<a>t<!--c--></a>");
        for (int i = 0; i < 3; i++) {
            check.dueReplace("", i, false);
            check.dueReplace(TWENTY + "x", i, false);
            check.dueReplace("x".repeat(120), i, false);
            check.dueReplace("x", i, true);
        }
        for (int i = 1; i < 3; i++) {
            check.dueReplace(TWENTY, i, true);
            check.dueReplace(TWENTY + "x", i, false);
            check.dueWords(i, TWENTY);
        }
        check.dueReplace("&lt;".repeat(5), 1, true);
        check.dueReplace("&lt;".repeat(5) + "x", 1, false);
    }

    /** "for a COMMENT has -- in it or - at its end" */
    private static void replaceComment() {
        check.beginWith("comment", "<a><!--c--></a>");
        String[] wrong = {"-", "--", "---", "x-", "x--", "--x", "x--y", "x---y", "-x-", "0123456789012345678-"};
        for (String value : wrong) {
            check.dueReplace(value, 1, false);
        }
        check.dueWords(1, "c");
        String[] fine = {"-x", "x-y", "-x-y-z", "- - x", ">", "->", "x", "-0123456789012345678"};
        for (String value : fine) {
            check.dueReplace(value, 1, true);
            check.dueWords(1, value);
        }
    }

    /** "(of an element: its text must be a NAME, which becomes its name)"; "or for an element is no NAME" */
    private static void replaceElement() {
        check.beginWith("element", "<a x=\"1\"><b/></a>");
        String[] wrong = {"abcdefg", "A", "aB", "a1", "a ", " a", "a-", "`", "{", "*", "<a>", "&lt;"};
        for (String name : wrong) {
            check.dueReplace(name, 0, false);
        }
        check.dueReplace("abcdef", 0, true);
        check.dueReplace("z", 1, true);
        check.dueDocument("<abcdef x=\"1\"><z/></abcdef>");
        check.due("node(0, 4)", check.store.node(0, 4), 6);
        check.due("commit()", check.store.commit(), 2);
    }
}
