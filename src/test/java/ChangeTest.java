/** Promises 5 and 6: remove and replace. */
final class ChangeTest {
    private static final Check check = new Check();

    public static void main(String[] args) {
        removed();
        removedBetweenTexts();
        removedRefused();
        replacedValues();
        replacedNames();
        replacedComments();
        check.end("ChangeTest");
    }

    private static void removed() {
        check.beginWith("removed", "<a>t<b><c>u</c>v</b><!--w--><d/></a>");
        check.due("remove(3)", check.store.remove(3), 2);
        check.due("kind(3)", check.store.kind(3), -1000);
        check.due("kind(4)", check.store.kind(4), -1000);
        check.due("remove(3) again", check.store.remove(3), -1000);
        check.due("remove(4)", check.store.remove(4), -1000);
        check.dueDocument("<a>t<b>v</b><!--w--><d/></a>");
        check.due("remove(6)", check.store.remove(6), 1);
        check.due("remove(2)", check.store.remove(2), 2);
        check.due("remove(1)", check.store.remove(1), 1);
        check.due("remove(7)", check.store.remove(7), 1);
        check.dueDocument("<a/>");
        check.due("commit()", check.store.commit(), 5);
        check.due("nodes()", check.store.nodes(), 1);
    }

    private static void removedBetweenTexts() {
        check.beginWith("between texts", "<a>12<b>x<c/></b>34<!--d-->56</a>");
        check.due("remove(2): with all in it and the right text", check.store.remove(2), 4);
        check.dueWords(1, "1234");
        check.due("kind(5)", check.store.kind(5), -1000);
        check.due("remove(6)", check.store.remove(6), 2);
        check.dueWords(1, "123456");
        check.dueLabel(1, 1, 1);
        check.dueDocument("<a>123456</a>");
        check.dueInsert("<e/>", 1, 1, 8);
        check.dueLabel(8, 1, 3);
        check.due("crash()", check.store.crash(), 3);
        check.dueDocument("<a>12<b>x<c/></b>34<!--d-->56</a>");
        check.due("kind(5)", check.store.kind(5), 2);
    }

    private static void removedRefused() {
        check.beginWith("remove refused", "<a>0123456789<b>x</b>0123456789<c/>y</a>");
        check.due("remove(0)", check.store.remove(0), -2000);
        check.due("remove(-1)", check.store.remove(-1), -1000);
        check.due("remove(7)", check.store.remove(7), -1000);
        check.due("remove(least)", check.store.remove(Integer.MIN_VALUE), -1000);
        check.dueInsert("z", 1, 0, 1);
        check.due("remove(2): 21 characters", check.store.remove(2), -2000);
        check.due("nodes()", check.store.nodes(), 7);
        check.dueWords(1, "z0123456789");
        check.dueWords(4, "0123456789");
        check.due("crash()", check.store.crash(), 1);
        check.due("remove(2): 20 characters", check.store.remove(2), 3);
        check.dueWords(1, "01234567890123456789");
        check.due("remove(5): 21 characters", check.store.remove(5), -2000);
        check.due("remove(6)", check.store.remove(6), 1);
        check.type("kept");
        check.due("remove(5): the buffer stays", check.store.remove(5), 1);
        check.due("replace(0)", check.store.replace(0), true);
        check.dueDocument("<kept>01234567890123456789</kept>");
    }

    private static void replacedValues() {
        check.beginWith("values", "<a>t<b/></a>");
        check.dueReplace("&lt; <x> \"'--", 1, true);
        check.dueWords(1, "&lt; <x> \"'--");
        check.dueDocument("<a>&amp;lt; &lt;x&gt; \"'--<b/></a>");
        check.dueReplace("01234567890123456789", 1, true);
        check.dueReplace("012345678901234567890", 1, false);
        check.dueReplace("", 1, false);
        check.dueWords(1, "01234567890123456789");
        check.dueReplace("x", 3, false);
        check.dueReplace("x", -1, false);
        check.due("commit()", check.store.commit(), 2);
        check.dueReplace("01234567890123456789", 1, true);
        check.due("commit(): the same value is a change too", check.store.commit(), 1);
    }

    private static void replacedNames() {
        check.beginWith("names", "<a x=\"1\">t</a>");
        check.dueReplace("abcdef", 0, true);
        check.dueDocument("<abcdef x=\"1\">t</abcdef>");
        String[] wrong = {"abcdefg", "A", "aB", "a1", "a ", " a", "a-", "", "{", "`"};
        for (String name : wrong) {
            check.dueReplace(name, 0, false);
        }
        check.dueReplace("z", 0, true);
        check.dueWords(0, "z");
        check.due("node(0, 3)", check.store.node(0, 3), 1);
        check.due("commit()", check.store.commit(), 2);
    }

    private static void replacedComments() {
        check.beginWith("comments", "<a><!--c--></a>");
        check.dueReplace("-", 1, false);
        check.dueReplace("--", 1, false);
        check.dueReplace("--a", 1, false);
        check.dueReplace("a--", 1, false);
        check.dueReplace("a--b", 1, false);
        check.dueReplace("a-", 1, false);
        check.dueReplace("", 1, false);
        check.dueReplace("012345678901234567890", 1, false);
        check.dueWords(1, "c");
        check.dueReplace("-a", 1, true);
        check.dueReplace("a-b-c", 1, true);
        check.dueReplace("->", 1, true);
        check.dueReplace("<b>&lt;&", 1, true);
        check.dueDocument("<a><!--<b>&lt;&--></a>");
        check.dueReplace("01234567890123456789", 1, true);
        check.due("commit()", check.store.commit(), 5);
    }
}
