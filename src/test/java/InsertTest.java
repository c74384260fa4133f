/** Promise 4: insert, with the labels of nodes that come later. */
final class InsertTest {
    private static final Check check = new Check();

    public static void main(String[] args) {
        places();
        joinedTexts();
        orderOfRefusals();
        errors();
        depth();
        limits();
        madeEver();
        labels();
        labelsBehindARemoval();
        longLabels();
        check.end("InsertTest");
    }

    private static void places() {
        check.beginWith("places", "<a><b>t</b><c/></a>");
        check.dueInsert("<d/>", 1, 0, 4);
        check.dueInsert("<e/>", 1, 1, 5);
        check.dueInsert("<f/>", 1, 2, 6);
        check.dueInsert("<g/>", 1, 3, 7);
        check.dueInsert("<h/>", 0, 2, 8);
        check.dueInsert("<i/>", 0, 3, 9);
        check.dueInsert("<j/>", 2, 0, 10);
        check.dueInsert("<!--k-->", 2, 1, 11);
        check.dueDocument("<a><h/><d/><b><f/><j/>t<!--k--><g/></b><e/><c/><i/></a>");
        check.dueInsert("<l x=\"1\">u<m>v</m><!--w--></l>", 3, 3, 12);
        check.dueInsert("&lt;o", 5, 3, 17);
        check.dueDocument("<a><h/><d/><b><f/><j/>t<!--k--><g/></b><e>&lt;o</e>"
                + "<c><l x=\"1\">u<m>v</m><!--w--></l></c><i/></a>");
        check.dueWords(13, "u");
        check.dueWords(14, "m");
        check.dueWords(15, "v");
        check.dueWords(16, "w");
        check.due("nodes()", check.store.nodes(), 18);
    }

    private static void joinedTexts() {
        check.beginWith("joined texts", "<a><b/>mid<c/></a>");
        check.dueInsert("1", 2, 0, 2);
        check.dueInsert("2", 2, 1, 2);
        check.dueInsert("3", 1, 1, 2);
        check.dueInsert("4", 3, 0, 2);
        check.dueWords(2, "31mid24");
        check.due("nodes()", check.store.nodes(), 4);
        check.dueInsert("5", 0, 2, 4);
        check.dueInsert("6", 0, 2, 4);
        check.dueInsert("7", 0, 3, 5);
        check.dueInsert("8", 0, 3, 5);
        check.dueInsert("9", 1, 0, 4);
        check.dueDocument("<a>659<b/>31mid24<c/>78</a>");
        check.dueInsert("<d/>", 2, 0, 6);
        check.due("commit()", check.store.commit(), 10);
        check.dueInsert("0123456789&lt;&gt;&quot;", 2, 1, 2);
        check.dueWords(2, "31mid240123456789<>\"");
        check.dueInsert("x", 2, 0, -2000);
        check.dueInsert("x", 2, 1, -2000);
        check.dueInsert("x", 3, 0, -2000);
        check.dueInsert("x", 6, 1, -2000);
        check.dueInsert("x", 6, 0, 7);
    }

    private static void orderOfRefusals() {
        check.beginWith("order of refusals", "<a>t<!--c--></a>");
        check.dueInsert("<", 3, 9, -1000);
        check.dueInsert("<", -1, 0, -1000);
        check.dueInsert("<", Integer.MIN_VALUE, 0, -1000);
        check.dueInsert("<", Integer.MAX_VALUE, 0, -1000);
        check.dueInsert("<", 0, -1, -2000);
        check.dueInsert("<", 0, 4, -2000);
        check.dueInsert("<", 1, Integer.MIN_VALUE, -2000);
        check.dueInsert("<", 0, 0, -2000);
        check.dueInsert("<", 0, 1, -2000);
        check.dueInsert("<", 1, 2, -2000);
        check.dueInsert("<", 1, 3, -2000);
        check.dueInsert("<", 2, 2, -2000);
        check.dueInsert("<", 2, 3, -2000);
        check.dueInsert("012345678901234567890<", 0, 3, -22);
        check.due("commit()", check.store.commit(), 0);
        check.dueDocument("<a>t<!--c--></a>");
    }

    private static void errors() {
        check.beginWith("errors", "<a/>");
        check.dueInsert("", 0, 2, -1);
        check.dueInsert("<", 0, 2, -2);
        check.dueInsert("</a>", 0, 2, -2);
        check.dueInsert("<q/><r/>", 0, 2, -5);
        check.dueInsert("<q/>t", 0, 2, -5);
        check.dueInsert("<q/>&lt;", 0, 2, -5);
        check.dueInsert("<q></q><!---->", 0, 2, -8);
        check.dueInsert("<!---->t", 0, 2, -8);
        check.dueInsert("<!----><!---->", 0, 2, -8);
        check.dueInsert("t<q/>", 0, 2, -2);
        check.dueInsert("t<!---->", 0, 2, -2);
        check.dueInsert("t</a>", 0, 2, -2);
        check.dueInsert("t<", 0, 2, -2);
        check.dueInsert("t&lt", 0, 2, -2);
        check.dueInsert("&lt;&l", 0, 2, -5);
        check.dueInsert("<q>", 0, 2, -4);
        check.dueInsert("<q></r>", 0, 2, -6);
        check.dueInsert("<q x=\"\" x=\"\"/>", 0, 2, -9);
        check.dueInsert("<!--x--x-->", 0, 2, -8);
        check.due("nodes()", check.store.nodes(), 1);
    }

    private static void depth() {
        check.beginWith("depth", "<a><a><a><a><a>t</a></a></a></a></a>");
        check.dueInsert("<b><c/></b>", 4, 3, -4);
        check.dueInsert("<b>u</b>", 4, 3, 6);
        check.dueInsert("<c/>", 6, 2, -1);
        check.dueInsert("<c/>", 7, 0, -1);
        check.dueInsert("<", 7, 0, -2);
        check.dueInsert("<1", 7, 0, -2);
        check.dueInsert("<c/>", 6, 1, 8);
        check.dueInsert("<!--v-->", 7, 0, 9);
        check.dueInsert("w", 6, 2, 10);
        check.dueInsert("<b><b><b><b><b/></b></b></b></b>", 0, 2, 11);
        check.dueInsert("<b><b><b><b><b><b/></b></b></b></b></b>", 0, 2, -16);
    }

    private static void limits() {
        check.beginWith("limits", "<a>" + "x<b/>".repeat(18) + "x</a>");
        check.due("nodes()", check.store.nodes(), 38);
        check.dueInsert("<c><d/><e/></c>", 0, 3, -2000);
        check.dueInsert("<c x=\"\" b=\"\" c=\"\" d=\"\"/>", 0, 3, -2000);
        check.dueInsert("<c x=\"012345678901234567890\"/>", 0, 3, -2000);
        check.dueInsert("<!--012345678901234567890-->", 0, 3, -2000);
        check.dueInsert("012345678901234567890", 2, 2, -2000);
        check.dueInsert("0123456789012345678&amp;&amp;", 2, 2, -2000);
        check.dueInsert("<c><d/></c>", 0, 3, 38);
        check.dueInsert("y", 2, 2, -2000);
        check.dueInsert("<c/>", 2, 2, -2000);
        check.dueInsert("y", 1, 0, 1);
        check.dueWords(1, "yx");
        check.due("remove(2): a text is joined", check.store.remove(2), 2);
        check.dueWords(1, "yxx");
        check.dueInsert("01234567890123456789", 4, 2, 40);
        check.dueInsert("<!--01234567890123456789-->", 4, 1, 41);
        check.due("nodes()", check.store.nodes(), 40);
    }

    private static void madeEver() {
        check.beginWith("made ever", "<a>" + "<b/>".repeat(20) + "</a>");
        for (int round = 0; round < 9; round++) {
            for (int k = 1; k <= 19; k++) {
                check.dueInsert("x", k, 1, 21 + 19 * round + k - 1);
            }
            check.due("crash()", check.store.crash(), 19);
        }
        check.dueInsert("<c>" + "<d/>".repeat(7) + "</c>", 1, 2, 192);
        check.dueInsert("x", 1, 3, -2000);
        check.dueInsert("<e/>", 0, 3, -2000);
        check.due("crash()", check.store.crash(), 1);
        check.dueInsert("x", 1, 3, -2000);
        check.dueReplace("z", 1, true);
    }

    private static void labels() {
        check.beginWith("labels", "<a><b/><b/></a>");
        check.dueInsert("<c/>", 2, 1, 3);
        check.dueLabel(3, 1, 5);
        check.dueInsert("<d/>", 1, 0, 4);
        check.dueLabel(4, 1, -1);
        check.dueInsert("<e/>", 1, 1, 5);
        check.dueLabel(5, 1, 2, 1);
        check.dueInsert("<f/>", 5, 1, 6);
        check.dueLabel(6, 1, 2, 3);
        check.dueInsert("<g/>", 5, 0, 7);
        check.dueLabel(7, 1, 2, -1);
        check.dueInsert("<h/>", 5, 0, 8);
        check.dueLabel(8, 1, 2, 0, 1);
        check.dueInsert("<i/>", 5, 0, 9);
        check.dueLabel(9, 1, 2, 0, 3);
        check.dueInsert("<j/>", 8, 0, 10);
        check.dueLabel(10, 1, 2, 0, -1);
        check.dueInsert("<k>t<l/><m/></k>", 3, 2, 11);
        check.dueLabel(11, 1, 5, 1);
        check.dueLabel(12, 1, 5, 1, 1);
        check.dueLabel(13, 1, 5, 1, 3);
        check.dueLabel(14, 1, 5, 1, 5);
        check.dueInsert("<n><o/></n>", 5, 1, 15);
        check.dueLabel(15, 1, 2, 2, 1);
        check.dueLabel(16, 1, 2, 2, 1, 1);
        check.dueLabel(0, 1);
        check.dueLabel(1, 1, 1);
    }

    private static void labelsBehindARemoval() {
        check.beginWith("labels behind a removal", "<a><b/><c/><d/></a>");
        check.due("remove(2)", check.store.remove(2), 1);
        check.dueInsert("<e/>", 1, 1, 4);
        check.dueLabel(4, 1, 3);
        check.dueInsert("<f/>", 4, 0, 5);
        check.dueLabel(5, 1, 2, 1);
        check.due("remove(1)", check.store.remove(1), 1);
        check.dueInsert("<g/>", 0, 2, 6);
        check.dueLabel(6, 1, 1);
        check.due("remove(6)", check.store.remove(6), 1);
        check.due("remove(4)", check.store.remove(4), 1);
        check.dueInsert("<h/>", 5, 1, 7);
        check.dueLabel(7, 1, 3);
        check.due("remove(7)", check.store.remove(7), 1);
        check.due("remove(3)", check.store.remove(3), 1);
        check.dueInsert("<i/>", 5, 1, 8);
        check.dueLabel(8, 1, 3);
        check.due("remove(8)", check.store.remove(8), 1);
        check.dueInsert("<j/>", 5, 0, 9);
        check.dueLabel(9, 1, 1);
        check.due("remove(9)", check.store.remove(9), 1);
        check.due("remove(5)", check.store.remove(5), 1);
        check.dueInsert("<k/>", 0, 3, 10);
        check.dueLabel(10, 1, 1);
    }

    /** Going in turns to both sides makes a label of this length with the fewest nodes. */
    private static void longLabels() {
        check.beginWith("long labels", "<a><b/><b/></a>");
        int left = 1;
        int right = 2;
        for (int size = 3; size <= 16; size++) {
            check.type("<c/>");
            int middle = check.store.insert(left, 1);
            check.due("numbers of the label", check.store.node(middle, 5), size);
            if (size == 16) {
                longestLabel(middle);
                break;
            }
            check.type("<c/>");
            right = middle;
            int before = check.store.insert(right, 0);
            check.due("numbers of the label", check.store.node(before, 5), size);
            left = before;
        }
    }

    private static void longestLabel(int longest) {
        check.dueInsert("t", longest, 2, -2000);
        check.dueInsert("<d/>", longest, 3, -2000);
        check.dueInsert("<d>t</d>", longest, 1, -2000);
        check.dueInsert("<d/>", longest, 0, 2 + 2 * 13 + 2);
        check.dueInsert("<d/>", longest, 0, -2000);
        check.dueInsert("t", longest, 0, -2000);
        int last = 2 + 2 * 13 + 2;
        check.due("numbers of the label", check.store.node(last, 5), 16);
    }
}
