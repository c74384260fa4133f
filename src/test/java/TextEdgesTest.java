/** The edges of what a text may be: a method for each sentence of "Terms", up to the labels. */
final class TextEdgesTest {
    private static final Check check = new Check();
    private static final String TWENTY = "01234567890123456789";

    public static void main(String[] args) {
        bufferHolds120();
        bufferHolds32To126();
        nameOfAnElement();
        nameOfAnAttribute();
        nameInAPath();
        nameThatReplaces();
        entityStandsFor();
        entityIsNoOther();
        documentIsAnElement();
        attributesHaveTheirForm();
        elementEndsInOneOfTwoWays();
        valueIsMadeOf();
        contentIsAnyNumber();
        commentHasPerhapsNone();
        dashesStandOnlyInTheEnd();
        dashAndGreaterAreCharacters();
        noTwoAttributesOfOneName();
        textIsWhatFollowsDirectly();
        commentIsItsCharacters();
        atMost40AreThere();
        atMost200WereEverMade();
        atMost3Attributes();
        atMost5Others();
        atMost20InAText();
        atMost20InAComment();
        atMost20InAnAttribute();
        numbersInTheOrderOfMaking();
        textsAreNeverNeighbours();
        check.end("TextEdgesTest");
    }

    /** "THE BUFFER holds at most 120 characters" */
    private static void bufferHolds120() {
        String full = "<a>" + "<b>12345678</b>".repeat(7) + "12345678</a>";
        check.begin("buffer holds 120");
        check.due("the text's length", full.length(), 120);
        for (int k = 0; k < 120; k++) {
            check.due("type at " + k, check.store.type(full.charAt(k)), true);
        }
        check.due("type at 120", check.store.type('x'), false);
        check.due("type at 120 again", check.store.type('y'), false);
        check.due("load: the 121st was not appended", check.store.load(), 16);
        check.due("type behind load", check.store.type('x'), true);
    }

    /** "each 32 .. 126" */
    private static void bufferHolds32To126() {
        check.begin("buffer holds 32 to 126");
        check.type("<a>");
        int[] wrong = {0, 31, 127, 128, 255, 256 + 'b', 65535};
        for (int c : wrong) {
            check.due("type(" + c + ")", check.store.type((char) c), false);
        }
        check.due("type(32)", check.store.type((char) 32), true);
        check.due("type(126)", check.store.type((char) 126), true);
        check.type("</a>");
        check.due("load", check.store.load(), 2);
        check.dueWords(1, " ~");
    }

    /** "A NAME is 1 to 6 small letters." */
    private static void nameOfAnElement() {
        check.begin("name of an element");
        check.dueLoad("</>", -2);
        check.dueLoad("<a/>", 1);
        check.dueLoad("<z/>", 1);
        check.dueLoad("<abcdef/>", 1);
        check.dueLoad("<abcdefg/>", -8);
        check.dueLoad("<abcdef></abcdef>", 1);
        check.dueLoad("<abcdefg></abcdefg>", -8);
        String[] others = {"`", "{", "A", "Z", "1", "_", "-"};
        for (String other : others) {
            check.dueLoad("<" + other + "/>", -2);
            check.dueLoad("<a" + other + "/>", -3);
        }
    }

    /** The same of an attribute's. */
    private static void nameOfAnAttribute() {
        check.begin("name of an attribute");
        check.dueLoad("<a =\"\"/>", -4);
        check.dueLoad("<a z=\"\"/>", 1);
        check.dueLoad("<a abcdef=\"\"/>", 1);
        check.dueLoad("<a abcdefg=\"\"/>", -10);
        String[] others = {"`", "{", "A", "Z", "1", "_", "-"};
        for (String other : others) {
            check.dueLoad("<a " + other + "=\"\"/>", -4);
            check.dueLoad("<a x" + other + "=\"\"/>", -5);
        }
    }

    /** The same of those in a PATH. */
    private static void nameInAPath() {
        check.beginWith("name in a path", "<a><abcdef abcdef=\"\"/></a>");
        check.dueQuery("abcdef", 0, 1);
        check.dueQueryAnswer("abcdefg", 0, -7);
        check.dueQuery("*[@abcdef]", 0, 1);
        check.dueQueryAnswer("*[@abcdefg]", 0, -10);
        check.dueQueryAnswer("*[@]", 0, -4);
        check.dueQueryAnswer("`", 0, -1);
        check.dueQueryAnswer("{", 0, -1);
        check.dueQueryAnswer("a`", 0, -2);
        check.dueQueryAnswer("*[@{]", 0, -4);
    }

    /** The same of one that replaces another. */
    private static void nameThatReplaces() {
        check.beginWith("name that replaces", "<a/>");
        check.dueReplace("", 0, false);
        check.dueReplace("z", 0, true);
        check.dueReplace("abcdef", 0, true);
        check.dueReplace("abcdefg", 0, false);
        check.dueReplace("ab{", 0, false);
        check.dueReplace("`ab", 0, false);
        check.dueReplace("abZ", 0, false);
        check.dueWords(0, "abcdef");
    }

    /** "An ENTITY is &lt; &gt; &amp; &quot; or &apos; (it stands for < > & " ')." */
    private static void entityStandsFor() {
        String[] entities = {"&lt;", "&gt;", "&amp;", "&quot;", "&apos;"};
        String signs = "<>&\"'";
        for (int k = 0; k < 5; k++) {
            check.begin("entity " + entities[k]);
            check.dueLoad("<a x=\"" + entities[k] + "\">" + entities[k] + "</a>", 2);
            check.due("node(1, 4)", check.store.node(1, 4), 1);
            check.due("letter(1, 0)", check.store.letter(1, 0), signs.charAt(k));
            String inAttribute = k == 3 ? "&quot;" : k == 0 ? "&lt;" : k == 2 ? "&amp;" : signs.substring(k, k + 1);
            String inText = k < 3 ? entities[k] : signs.substring(k, k + 1);
            check.dueDocument("<a x=\"" + inAttribute + "\">" + inText + "</a>");
        }
    }

    /** Nothing else is an ENTITY: "the & of what is no ENTITY". */
    private static void entityIsNoOther() {
        check.begin("no entity");
        String[] others = {"&", "&;", "&l;", "&lt", "&lt ;", "&ltt;", "&LT;", "&Lt;", "& lt;", "&g;", "&gt:",
            "&am;", "&ampp;", "&quo;", "&quote;", "&apo;", "&apos", "&aposs;", "&nbsp;", "&#60;", "&&lt;"};
        for (String other : others) {
            check.dueLoad("<a>x" + other + "</a>", -5);
            check.dueLoad("<a x=\"y" + other + "\"/>", -8);
        }
        check.due("nodes()", check.store.nodes(), 0);
    }

    /** "A DOCUMENT is an ELEMENT." */
    private static void documentIsAnElement() {
        check.begin("a document is an element");
        check.dueLoad("", -1);
        check.dueLoad("t", -1);
        check.dueLoad("&lt;", -1);
        check.dueLoad(" <a/>", -1);
        check.dueLoad("<!---->", -2);
        check.dueLoad("<!----><a/>", -2);
        check.dueLoad("</a>", -2);
        check.dueLoad("<a/> ", -5);
        check.dueLoad("<a/>&", -5);
        check.dueLoad("<a/><a/>", -5);
        check.dueLoad("<a></a><!---->", -8);
        check.dueLoad("<a/>", 1);
    }

    /** "any number of attributes, each a space, a NAME, =" , a value, "" */
    private static void attributesHaveTheirForm() {
        check.begin("attributes");
        check.dueLoad("<a x=\"\" y=\"\"/>", 1);
        check.dueLoad("<a x=\"\" y=\"\"></a>", 1);
        check.dueLoad("<a  x=\"\"/>", -4);
        check.dueLoad("<a\"\"/>", -3);
        check.dueLoad("<ax=\"\"/>", -4);
        check.dueLoad("<a x =\"\"/>", -5);
        check.dueLoad("<a x/>", -5);
        check.dueLoad("<a x= \"\"/>", -6);
        check.dueLoad("<a x=''/>", -6);
        check.dueLoad("<a x=y/>", -6);
        check.dueLoad("<a x=\"\"y=\"\"/>", -8);
        check.dueLoad("<a x=\"\"\"/>", -8);
        check.dueLoad("<a x=\"\" />", -9);
        check.dueLoad("<a x=\"\" >", -9);
    }

    /** "then either /> or > , CONTENT, </ , the same NAME, >" */
    private static void elementEndsInOneOfTwoWays() {
        check.begin("an element's end");
        check.dueLoad("<a/>", 1);
        check.dueLoad("<a></a>", 1);
        check.dueLoad("<a//>", -4);
        check.dueLoad("<a/ >", -4);
        check.dueLoad("<a>/>", -6);
        check.dueLoad("<a></ a>", -6);
        check.dueLoad("<a></>", -6);
        check.dueLoad("<a></a/>", -7);
        check.dueLoad("<a></a >", -7);
        check.dueLoad("<a></a x=\"\">", -7);
    }

    /** "A value is made of ENTITIES and of characters other than < & "." */
    private static void valueIsMadeOf() {
        check.begin("values");
        check.dueLoad("<a x=\"\"/>", 1);
        check.dueDocument("<a x=\"\"/>");
        check.dueLoad("<a x=\"> '/=-!;~\"/>", 1);
        check.dueDocument("<a x=\"> '/=-!;~\"/>");
        check.dueLoad("<a x=\"<\"/>", -7);
        check.dueLoad("<a x=\"a<b/>\"/>", -8);
        check.dueLoad("<a x=\"&\"/>", -7);
        check.dueLoad("<a x=\"a\"b\"/>", -9);
    }

    /** "CONTENT is any number, one after the other, of ELEMENTS, COMMENTS, ENTITIES and characters other than < and &." */
    private static void contentIsAnyNumber() {
        check.begin("content");
        check.dueLoad("<a></a>", 1);
        check.due("node(0, 1)", check.store.node(0, 1), 0);
        check.dueLoad("<a> </a>", 2);
        check.dueWords(2, " ");
        check.dueLoad("<a>>\"'/]]>;-->=!</a>", 2);
        check.dueWords(4, ">\"'/]]>;-->=!");
        check.dueLoad("<a><b/><b/><!----><!---->t<b/></a>", 7);
        check.dueLoad("<a>&</a>", -4);
        check.dueLoad("<a>< </a>", -5);
        check.dueLoad("<a><></a>", -5);
    }

    /** "A COMMENT: <!-- , characters, perhaps none, -->" */
    private static void commentHasPerhapsNone() {
        check.begin("comments");
        check.dueLoad("<a><!----></a>", 2);
        check.due("kind(1)", check.store.kind(1), 3);
        check.due("node(1, 4)", check.store.node(1, 4), 0);
        check.due("letter(1, 0)", check.store.letter(1, 0), 0);
        check.dueDocument("<a><!----></a>");
        check.dueLoad("<a><!--c--></a>", 2);
        check.dueWords(3, "c");
        check.dueLoad("<a><!></a>", -6);
        check.dueLoad("<a><!-></a>", -7);
        check.dueLoad("<a><! ----></a>", -6);
        check.dueLoad("<a><!- ---></a>", -7);
    }

    /** "-- stands only in its end"; the error is "behind -- in a COMMENT one that is not >" */
    private static void dashesStandOnlyInTheEnd() {
        check.begin("dashes");
        check.dueLoad("<a><!--x-y--></a>", 2);
        check.dueLoad("<a><!---x--></a>", 2);
        check.dueWords(3, "-x");
        check.dueLoad("<a><!--- - --></a>", 2);
        check.dueLoad("<a><!--x--y--></a>", -11);
        check.dueLoad("<a><!--x---></a>", -11);
        check.dueLoad("<a><!-----></a>", -10);
        check.dueLoad("<a><!------></a>", -10);
        check.dueLoad("<a><!---- ></a>", -10);
        check.dueLoad("<a><!----<b/>--></a>", -10);
    }

    /** "(of <!---> the - and the > behind <!-- are characters)" */
    private static void dashAndGreaterAreCharacters() {
        check.begin("dash and greater");
        check.dueLoad("<a><!--->--></a>", 2);
        check.dueWords(1, "->");
        check.dueLoad("<a><!---></a>", -14);
        check.dueLoad("<a><!-->--></a>", 2);
        check.dueWords(3, ">");
        check.dueLoad("<a><!--></a>", -13);
    }

    /** "No element has two attributes of one NAME." */
    private static void noTwoAttributesOfOneName() {
        check.begin("two of one name");
        check.dueLoad("<a x=\"1\" x=\"2\"/>", -10);
        check.dueLoad("<a x=\"1\" y=\"1\" x=\"1\"/>", -16);
        check.dueLoad("<a x=\"1\" y=\"1\" y=\"1\"/>", -16);
        check.dueLoad("<a xy=\"\" x=\"\" y=\"\"/>", 1);
        check.dueLoad("<a x=\"\"><b x=\"\"/><b x=\"\"/></a>", 3);
        check.dueLoad("<x x=\"\"/>", 1);
    }

    /** "TEXTS (kind 2) with a value, for ENTITIES and characters that follow one another directly (what they stand for)" */
    private static void textIsWhatFollowsDirectly() {
        check.begin("a text");
        check.dueLoad("<a>&lt;x&gt;&amp;y</a>", 2);
        check.dueWords(1, "<x>&y");
        check.dueLoad("<a>&amp;lt;</a>", 2);
        check.dueWords(3, "&lt;");
        check.dueLoad("<a>x<!---->y<b/>z</a>", 6);
        check.dueWords(5, "x");
        check.dueWords(7, "y");
        check.dueWords(9, "z");
    }

    /** "COMMENTS (kind 3) with a value (their characters)" */
    private static void commentIsItsCharacters() {
        check.begin("a comment's value");
        check.dueLoad("<a><!--&lt;<b/>&\"--></a>", 2);
        check.dueWords(1, "&lt;<b/>&\"");
        check.dueDocument("<a><!--&lt;<b/>&\"--></a>");
    }

    /** "At most 40 nodes are there" */
    private static void atMost40AreThere() {
        String of39 = "<a>" + "x<b/>".repeat(19) + "</a>";
        check.begin("40 there");
        check.dueLoad("<a>" + "x<b/>".repeat(20) + "</a>", -2000);
        check.dueLoad("<a>" + "x<b/>".repeat(19) + "x</a>", 40);
        check.dueInsert("<c/>", 0, 3, -2000);
        check.dueLoad(of39, 39);
        check.dueInsert("<c><d/></c>", 40, 3, -2000);
        check.dueInsert("<c/>", 40, 3, 79);
        check.due("nodes()", check.store.nodes(), 40);
        check.dueInsert("<c/>", 40, 3, -2000);
        check.dueInsert("<!---->", 40, 3, -2000);
        check.dueInsert("x", 40, 3, -2000);
        check.due("remove(79)", check.store.remove(79), 1);
        check.dueInsert("x", 40, 3, 80);
        check.due("nodes()", check.store.nodes(), 40);
    }

    /** "at most 200 were ever made" */
    private static void atMost200WereEverMade() {
        check.begin("200 made");
        for (int k = 0; k < 4; k++) {
            check.dueLoad("<a>" + "x<b/>".repeat(19) + "x</a>", 40);
        }
        check.dueLoad("<a>" + "x<b/>".repeat(14) + "x</a>", 30);
        check.dueLoad("<a>x<b/>x<b/>x<b/></a>", 7);
        check.dueLoad("<a>x<b/>x</a>", -2000);
        check.dueInsert("<a>x<b/>x</a>", 190, 3, -2000);
        check.dueInsert("<c><d/></c>", 190, 3, 197);
        check.due("remove(197)", check.store.remove(197), 2);
        check.dueInsert("<c><d/></c>", 190, 3, -2000);
        check.dueInsert("<c/>", 190, 3, 199);
        check.due("kind(199)", check.store.kind(199), 1);
        check.due("remove(199)", check.store.remove(199), 1);
        check.dueInsert("<c/>", 190, 3, -2000);
        check.dueInsert("x", 192, 3, -2000);
        check.dueLoad("<c/>", -2000);
        check.due("crash()", check.store.crash(), 4);
        check.dueInsert("<c/>", 190, 3, -2000);
        check.dueInsert("y", 191, 0, 191);
        check.dueWords(191, "yx");
    }

    /** "an element has at most 3 attributes" */
    private static void atMost3Attributes() {
        String three = " x=\"\" y=\"\" z=\"\"";
        check.begin("3 attributes");
        check.dueLoad("<a" + three + " w=\"\"/>", -2000);
        check.dueLoad("<a><b" + three + " w=\"\"/></a>", -2000);
        check.dueLoad("<a" + three + "><b" + three + "/></a>", 2);
        check.due("node(0, 3)", check.store.node(0, 3), 3);
        check.dueInsert("<b" + three + " w=\"\"/>", 0, 3, -2000);
        check.dueInsert("<b><b" + three + " w=\"\"/></b>", 0, 3, -2000);
        check.dueInsert("<b" + three + "/>", 0, 3, 2);
        check.due("node(2, 3)", check.store.node(2, 3), 3);
    }

    /** "and lies in at most 5 others"; a TEXT or a COMMENT may lie in six. */
    private static void atMost5Others() {
        String five = "<a><a><a><a><a>";
        String ends = "</a></a></a></a></a>";
        check.begin("5 others");
        check.dueLoad(five + "<b/>" + ends, 6);
        check.dueLoad(five + "<b>t<!--c--></b>" + ends, 8);
        check.dueLoad(five + "<b><c/></b>" + ends, -19);
        check.dueLoad(five + "<b></b><b><c/></b>" + ends, -26);
        check.dueLoad(five + "</a><a/><a></a></a></a></a></a>", 7);
    }

    /** "values (of attributes too) have at most 20 characters", an ENTITY counting as the one that it stands for. */
    private static void atMost20InAText() {
        check.begin("20 in a text");
        check.dueLoad("<a>" + TWENTY + "x</a>", -2000);
        check.dueLoad("<a>" + TWENTY + "&lt;</a>", -2000);
        check.dueLoad("<a>" + TWENTY + "</a>", 2);
        check.dueLoad("<a>" + "&quot;".repeat(18) + "</a>", 2);
        check.due("node(3, 4)", check.store.node(3, 4), 18);
        check.dueLoad("<a>" + "&lt;".repeat(20) + "</a>", 2);
        check.due("node(5, 4)", check.store.node(5, 4), 20);
        check.dueLoad("<a>" + "&lt;".repeat(21) + "</a>", -2000);
        check.dueInsert("<b/>", 4, 2, 6);
        check.dueInsert(TWENTY + "x", 6, 2, -2000);
        check.dueInsert("<c>" + TWENTY + "x</c>", 6, 2, -2000);
        check.dueInsert(TWENTY, 6, 2, 7);
        check.dueWords(7, TWENTY);
    }

    /** The same of a COMMENT's, in which an ENTITY is so many characters. */
    private static void atMost20InAComment() {
        check.begin("20 in a comment");
        check.dueLoad("<a><!--" + TWENTY + "x--></a>", -2000);
        check.dueLoad("<a><!--" + "&lt;".repeat(5) + "x--></a>", -2000);
        check.dueLoad("<a><!--" + "&lt;".repeat(5) + "--></a>", 2);
        check.dueLoad("<a><!--" + TWENTY + "--></a>", 2);
        check.dueInsert("<!--" + TWENTY + "x-->", 2, 2, -2000);
        check.dueInsert("<!--" + TWENTY + "-->", 2, 2, 4);
        check.dueWords(4, TWENTY);
    }

    /** The same of an attribute's. */
    private static void atMost20InAnAttribute() {
        check.begin("20 in an attribute");
        check.dueLoad("<a x=\"" + TWENTY + "x\"/>", -2000);
        check.dueLoad("<a x=\"\" y=\"" + TWENTY + "&lt;\"/>", -2000);
        check.dueLoad("<a><b x=\"" + TWENTY + "x\"/></a>", -2000);
        check.dueLoad("<a x=\"" + TWENTY + "\" y=\"" + "&lt;".repeat(20) + "\"/>", 1);
        check.dueQuery("S*[@x='" + TWENTY + "']", 0, 0);
        check.dueQuery("S*[@y='" + "<".repeat(20) + "']", 0, 0);
        check.dueInsert("<b x=\"" + TWENTY + "x\"/>", 0, 2, -2000);
        check.dueInsert("<b x=\"" + TWENTY + "\"/>", 0, 2, 1);
    }

    /** "Nodes have numbers, from 0 on, in the order in which they are made: an element before what is in it, all of one text in their order." */
    private static void numbersInTheOrderOfMaking() {
        check.begin("numbers");
        check.dueLoad("<a>b<c>d<!--e--></c><f><g/></f></a>", 7);
        for (int i = 0; i < 7; i++) {
            check.due("letter(" + i + ", 0)", check.store.letter(i, 0), 'a' + i);
        }
        check.dueInsert("<h><i>j</i><!--k--></h>", 1, 0, 7);
        for (int i = 7; i < 11; i++) {
            check.due("letter(" + i + ", 0)", check.store.letter(i, 0), 'a' + i);
        }
        check.due("kind(11)", check.store.kind(11), -1000);
    }

    /** "Two TEXTS are never neighbours." */
    private static void textsAreNeverNeighbours() {
        check.beginWith("neighbours", "<a>t<b/>u</a>");
        check.dueInsert("1", 1, 0, 1);
        check.dueInsert("2", 1, 1, 1);
        check.dueInsert("3", 2, 0, 1);
        check.dueInsert("4", 2, 1, 3);
        check.dueInsert("5", 0, 2, 1);
        check.dueInsert("6", 0, 3, 3);
        check.dueDocument("<a>51t23<b/>4u6</a>");
        check.due("remove(2)", check.store.remove(2), 2);
        check.due("nodes()", check.store.nodes(), 2);
        check.dueWords(1, "51t234u6");
        check.dueInsert("7", 0, 3, 1);
        check.due("node(0, 1)", check.store.node(0, 1), 1);
    }
}
