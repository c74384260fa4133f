/** Promise 3: load, with the first errors and the limits of a DOCUMENT. */
final class LoadTest {
    private static final Check check = new Check();

    public static void main(String[] args) {
        ordinary();
        entities();
        comments();
        errorsInTags();
        errorsInAttributes();
        errorsInContent();
        errorsInComments();
        depth();
        limits();
        madeEver();
        refusedChangesNothing();
        numbersGoOn();
        check.end("LoadTest");
    }

    private static void ordinary() {
        check.begin("ordinary");
        check.dueLoad("<a/>", 1);
        check.dueLoad("<a></a>", 1);
        check.dueLoad("<abcdef zz=\"1\" a=\"\"></abcdef>", 1);
        check.dueLoad("<a>x<b/>y<b/>z</a>", 6);
        check.dueLoad("<a>> \"'/]]></a>", 2);
        check.dueWords(10, "> \"'/]]>");
        check.dueLoad("<a x=\">'/ =\"/>", 1);
        check.dueDocument("<a x=\">'/ =\"/>");
    }

    private static void entities() {
        check.begin("entities");
        check.dueLoad("<a x=\"&lt;&gt;&amp;&quot;&apos;\">&lt;&gt;&amp;&quot;&apos;</a>", 2);
        check.dueWords(1, "<>&\"'");
        check.dueQuery("/a[@x='<']", 0);
        check.dueDocument("<a x=\"&lt;>&amp;&quot;'\">&lt;&gt;&amp;\"'</a>");
        check.dueLoad("<a>&amp;lt;</a>", 2);
        check.dueWords(3, "&lt;");
    }

    private static void comments() {
        check.begin("comments");
        check.dueLoad("<a><!----></a>", 2);
        check.dueWords(1, "");
        check.due("kind(1)", check.store.kind(1), 3);
        check.dueLoad("<a><!--->--></a>", 2);
        check.dueWords(3, "->");
        check.dueLoad("<a><!-->--></a>", 2);
        check.dueWords(5, ">");
        check.dueLoad("<a><!--- -&lt;<b>- --></a>", 2);
        check.dueWords(7, "- -&lt;<b>- ");
        check.dueLoad("<a>t<!---->u</a>", 4);
    }

    private static void errorsInTags() {
        check.begin("errors in tags");
        check.dueLoad("", -1);
        check.dueLoad(" <a/>", -1);
        check.dueLoad("a", -1);
        check.dueLoad("<", -2);
        check.dueLoad("<!---->", -2);
        check.dueLoad("</a>", -2);
        check.dueLoad("<A/>", -2);
        check.dueLoad("<a", -3);
        check.dueLoad("<aB/>", -3);
        check.dueLoad("<a\"/>", -3);
        check.dueLoad("<abcdefg/>", -8);
        check.dueLoad("<a/", -4);
        check.dueLoad("<a/ >", -4);
        check.dueLoad("<a/>x", -5);
        check.dueLoad("<a/> ", -5);
        check.dueLoad("<a/><b/>", -5);
        check.dueLoad("<a></a>&", -8);
        check.dueLoad("<a>", -4);
        check.dueLoad("<a><", -5);
        check.dueLoad("<a></", -6);
        check.dueLoad("<a></a", -7);
        check.dueLoad("<a></a >", -7);
        check.dueLoad("<a></ab>", -7);
        check.dueLoad("<ab></a>", -8);
        check.dueLoad("<ab></ax>", -8);
        check.dueLoad("<ab><c></ab>", -10);
    }

    private static void errorsInAttributes() {
        check.begin("errors in attributes");
        check.dueLoad("<a ", -4);
        check.dueLoad("<a >", -4);
        check.dueLoad("<a />", -4);
        check.dueLoad("<a  x=\"\"/>", -4);
        check.dueLoad("<a x", -5);
        check.dueLoad("<a x>", -5);
        check.dueLoad("<a x =\"\"/>", -5);
        check.dueLoad("<a x=", -6);
        check.dueLoad("<a x='1'/>", -6);
        check.dueLoad("<a x=\"", -7);
        check.dueLoad("<a x=\"1", -8);
        check.dueLoad("<a x=\"1<\"/>", -8);
        check.dueLoad("<a x=\"1&lt\"/>", -8);
        check.dueLoad("<a x=\"\"y=\"\"/>", -8);
        check.dueLoad("<a x=\"\"", -8);
        check.dueLoad("<a abcdefg=\"\"/>", -10);
        check.dueLoad("<a x=\"\" x=\"\"/>", -9);
        check.dueLoad("<a x=\"\" x", -9);
        check.dueLoad("<a x=\"\" x?", -9);
        check.dueLoad("<a x=\"\" xy=\"\" xy=\"\"/>", -15);
        check.dueLoad("<a x=\"\" b=\"\" c=\"\" d=\"\" d=\"\"/>", -24);
        check.dueLoad("<a abcdef=\"\" abcdefg=\"\"/>", -14);
        check.dueLoad("<a x=\"\"><b x=\"\"/></a>", 2);
    }

    private static void errorsInContent() {
        check.begin("errors in content");
        check.dueLoad("<a>x", -5);
        check.dueLoad("<a>&lt", -4);
        check.dueLoad("<a>&", -4);
        check.dueLoad("<a>&;</a>", -4);
        check.dueLoad("<a>x&lt ;</a>", -5);
        check.dueLoad("<a>&LT;</a>", -4);
        check.dueLoad("<a>&nbsp;</a>", -4);
        check.dueLoad("<a>&amp;&am;</a>", -9);
        check.dueLoad("<a>< b/></a>", -5);
        check.dueLoad("<a><1/></a>", -5);
        check.dueLoad("<a><?b?></a>", -5);
        check.dueLoad("<a><<b/></a>", -5);
    }

    private static void errorsInComments() {
        check.begin("errors in comments");
        check.dueLoad("<a><!", -6);
        check.dueLoad("<a><!b", -6);
        check.dueLoad("<a><!-", -7);
        check.dueLoad("<a><!->", -7);
        check.dueLoad("<a><!--", -8);
        check.dueLoad("<a><!---", -9);
        check.dueLoad("<a><!---->", -11);
        check.dueLoad("<a><!----", -10);
        check.dueLoad("<a><!----->", -10);
        check.dueLoad("<a><!--x-- >", -11);
        check.dueLoad("<a><!--x--->", -11);
        check.dueLoad("<a><!--->", -10);
    }

    private static void depth() {
        check.begin("depth");
        check.dueLoad("<a><a><a><a><a><a/></a></a></a></a></a>", 6);
        check.dueLoad("<a><a><a><a><a><a>x<!--y--></a></a></a></a></a></a>", 8);
        check.dueLoad("<a><a><a><a><a><a><a/></a></a></a></a></a></a>", -19);
        check.dueLoad("<a><a><a><a><a><a><a", -19);
        check.dueLoad("<a><a><a><a><a><a><", -20);
        check.dueLoad("<a><a><a><a><a><a><!-", -22);
        check.dueLoad("<a><a><a><a><a><a><A/></a></a></a></a></a></a>", -20);
        check.dueLoad("<a><a><a><a><a><a></a></a></a><b/></a></a></a>", 7);
    }

    private static void limits() {
        check.begin("limits");
        check.dueLoad("<a x=\"\" b=\"\" c=\"\"/>", 1);
        check.dueLoad("<a x=\"\" b=\"\" c=\"\" d=\"\"/>", -2000);
        check.dueLoad("<a x=\"\" b=\"\" c=\"\" d=\"\">", -24);
        check.dueLoad("<a>01234567890123456789</a>", 2);
        check.dueLoad("<a>012345678901234567890</a>", -2000);
        check.dueLoad("<a>012345678901234567890</b>", -27);
        check.dueLoad("<a>0123456789012345678&amp;</a>", 2);
        check.dueLoad("<a>01234567890123456789&amp;</a>", -2000);
        check.dueLoad("<a x=\"01234567890123456789\"/>", 1);
        check.dueLoad("<a x=\"012345678901234567890\"/>", -2000);
        check.dueLoad("<a><!--01234567890123456789--></a>", 2);
        check.dueLoad("<a><!--012345678901234567890--></a>", -2000);
        check.dueLoad("<a>" + "x<b/>".repeat(19) + "x</a>", 40);
        check.dueLoad("<a>" + "x<b/>".repeat(20) + "</a>", -2000);
        check.dueLoad("<a>" + "x<b/>".repeat(20) + "</b>", -106);
    }

    private static void madeEver() {
        String full = "<a>" + "x<b/>".repeat(19) + "x</a>";
        check.begin("made ever");
        for (int k = 0; k < 4; k++) {
            check.dueLoad(full, 40);
        }
        check.dueLoad("<a>" + "x<b/>".repeat(19) + "</a>", 39);
        check.dueLoad("<a><b/></a>", -2000);
        check.due("root()", check.store.root(), 160);
        check.dueLoad("<a/>", 1);
        check.due("root()", check.store.root(), 199);
        check.dueLoad("<a/>", -2000);
        check.due("root()", check.store.root(), 199);
    }

    private static void refusedChangesNothing() {
        check.beginWith("refused", "<a><b/></a>");
        check.dueReplace("c", 1, true);
        check.dueLoad("<q", -3);
        check.dueLoad("<q>012345678901234567890</q>", -2000);
        check.dueDocument("<a><c/></a>");
        check.due("crash(): the batch is still open", check.store.crash(), 1);
        check.dueDocument("<a><b/></a>");
        check.dueInsert("<d/>", 0, 3, 2);
    }

    private static void numbersGoOn() {
        check.beginWith("numbers go on", "<a>t<b/></a>");
        check.dueLoad("<c><d/></c>", 2);
        check.due("root()", check.store.root(), 3);
        check.due("nodes()", check.store.nodes(), 2);
        for (int i = 0; i < 3; i++) {
            check.due("kind of an old one", check.store.kind(i), -1000);
        }
        check.dueWords(3, "c");
        check.dueWords(4, "d");
        check.dueLabel(4, 1, 1);
    }
}
