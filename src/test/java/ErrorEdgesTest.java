/** The places of a text's FIRST ERROR, and that it goes before the limits: a method for each of its cases. */
final class ErrorEdgesTest {
    private static final Check check = new Check();

    public static void main(String[] args) {
        readingGoesFromTheFirstOn();
        characterThatMayNotStand();
        nameBehindTheSlash();
        behindTwoDashes();
        endsWhereItMayNotEnd();
        andOfNoEntity();
        entityThatTheEndCutsOff();
        nameThatTheElementHasAlready();
        nameIsLookedAtWhenItHasEnded();
        nameIsLookedAtBeforeWhatStandsBehind();
        lessThatWouldLieTooDeep();
        lessWithASmallLetterBehindIt();
        errorGoesBeforeTheLimits();
        limitsOfATextWithoutAnError();
        check.end("ErrorEdgesTest");
    }

    /** "Reading goes from the first character on. Its FIRST ERROR is at: .." */
    private static void readingGoesFromTheFirstOn() {
        check.begin("the first of several");
        check.dueLoad("<a>&x;<B></c>", -4);
        check.dueLoad("<a><B>&x;</c>", -5);
        check.dueLoad("<a x=\"\" x=\"&\"><B", -9);
        check.dueLoad("<a x=\"&\" x=\"\">", -7);
        check.dueLoad("<a><!----x></b>", -10);
        check.dueLoad("<a>&x;&y;</a>", -4);
        check.dueLoad("<a x=\"&x;&y;<\"/>", -7);
        check.dueLoad("<a =\"<", -4);
        check.dueLoad("<a =?", -4);
        check.dueLoad("<a =\"&", -4);
        check.dueLoad("<a></b></c>", -6);
    }

    /** "a character that may not stand where it stands" */
    private static void characterThatMayNotStand() {
        check.begin("may not stand");
        check.dueLoad("a", -1);
        check.dueLoad("<1", -2);
        check.dueLoad("<a?", -3);
        check.dueLoad("<a ?", -4);
        check.dueLoad("<a x?", -5);
        check.dueLoad("<a x=?", -6);
        check.dueLoad("<a x=\"<", -7);
        check.dueLoad("<a x=\"\"?", -8);
        check.dueLoad("<a/?", -4);
        check.dueLoad("<a><?", -5);
        check.dueLoad("<a><!?", -6);
        check.dueLoad("<a><!-?", -7);
        check.dueLoad("<a></a?", -7);
        check.dueLoad("<a></a>?", -8);
    }

    /** "(in the NAME behind </ one that is not as in the element's own ..)" */
    private static void nameBehindTheSlash() {
        check.begin("name behind the slash");
        check.dueLoad("<ab></ab>", 1);
        check.dueLoad("<ab></bb>", -7);
        check.dueLoad("<ab></aa>", -8);
        check.dueLoad("<ab></a>", -8);
        check.dueLoad("<ab></>", -7);
        check.dueLoad("<ab></abc>", -9);
        check.dueLoad("<ab></Ab>", -7);
        check.dueLoad("<abcdef></abcdeg>", -16);
        check.dueLoad("<abcdef></abcdefg>", -17);
        check.dueLoad("<a><b></a></b>", -9);
        check.dueLoad("<a><ab></a></ab>", -11);
    }

    /** "(.. behind -- in a COMMENT one that is not >)" */
    private static void behindTwoDashes() {
        check.begin("behind two dashes");
        check.dueLoad("<a><!----x", -10);
        check.dueLoad("<a><!-----", -10);
        check.dueLoad("<a><!--x-- ", -11);
        check.dueLoad("<a><!--x--->", -11);
        check.dueLoad("<a><!--x--<", -11);
    }

    /** "the place behind the last one, if the text ends where it may not end": after each of its characters. */
    private static void endsWhereItMayNotEnd() {
        check.begin("ends where it may not end");
        String document = "<ab x=\"1\" y=\"\">t<!---c--><b/><b></b></ab>";
        for (int size = 0; size < document.length(); size++) {
            check.dueLoad(document.substring(0, size), -1 - size);
        }
        check.dueLoad(document, 5);
        String node = "<b x=\"1\">t<!--c--><d/></b>";
        for (int size = 0; size < node.length(); size++) {
            check.dueInsert(node.substring(0, size), 0, 2, -1 - size);
        }
        check.dueInsert(node, 0, 2, 5);
    }

    /** "the & of what is no ENTITY" */
    private static void andOfNoEntity() {
        check.begin("no entity");
        check.dueLoad("<a>&x;</a>", -4);
        check.dueLoad("<a>&lt;&x;</a>", -8);
        check.dueLoad("<a>&lt</a>", -4);
        check.dueLoad("<a x=\"&apo;\"/>", -7);
        check.dueLoad("<a x=\"&amp\"/>", -7);
        check.beginWith("no entity in insert", "<a/>");
        check.dueInsert("&x;", 0, 2, -1);
        check.dueInsert("t&x;", 0, 2, -2);
        check.dueInsert("<b>&x;</b>", 0, 2, -4);
    }

    /** "(also one that the text's end cuts off)" */
    private static void entityThatTheEndCutsOff() {
        String[] entities = {"&lt;", "&gt;", "&amp;", "&quot;", "&apos;"};
        check.beginWith("entity cut off", "<a/>");
        for (String entity : entities) {
            for (int size = 1; size < entity.length(); size++) {
                String cut = entity.substring(0, size);
                check.dueLoad("<a>" + cut, -4);
                check.dueLoad("<a x=\"" + cut, -7);
                check.dueInsert("t" + cut, 0, 2, -2);
            }
            check.dueLoad("<a>" + entity, -4 - entity.length());
        }
    }

    /** "the first character of an attribute's NAME that the element has already" */
    private static void nameThatTheElementHasAlready() {
        check.begin("name twice");
        check.dueLoad("<a xy=\"\" xy=\"\"/>", -10);
        check.dueLoad("<a x=\"\" y=\"\" z=\"\" w=\"\" x=\"\"/>", -24);
        check.dueLoad("<a abcdef=\"\" abcdef=\"\"/>", -14);
        check.dueLoad("<a><b x=\"\" x=\"\"/></a>", -12);
        check.beginWith("name twice in insert", "<a x=\"\"/>");
        check.dueInsert("<b x=\"\"/>", 0, 2, 1);
        check.dueInsert("<b x=\"\" x=\"\"/>", 0, 2, -9);
    }

    /** "(looked at when that has ended ..)": its front alone may be the NAME of another. */
    private static void nameIsLookedAtWhenItHasEnded() {
        check.begin("name has ended");
        check.dueLoad("<a x=\"\" xy=\"\"/>", 1);
        check.dueLoad("<a xy=\"\" x=\"\"/>", 1);
        check.dueLoad("<a x=\"\" xY=\"\"/>", -9);
        check.dueLoad("<a x=\"\" xy", -11);
        check.dueLoad("<a abcde=\"\" abcdef=\"\"/>", 1);
        check.dueLoad("<a abcde=\"\" abcdefg=\"\"/>", -19);
    }

    /** "(.. before what stands behind it)" */
    private static void nameIsLookedAtBeforeWhatStandsBehind() {
        check.begin("before what stands behind");
        check.dueLoad("<a x=\"\" x?", -9);
        check.dueLoad("<a x=\"\" x ", -9);
        check.dueLoad("<a x=\"\" x/>", -9);
        check.dueLoad("<a x=\"\" x1=\"\"/>", -9);
        check.dueLoad("<a x=\"\" x=?", -9);
        check.dueLoad("<a x=\"\" x=\"&", -9);
        check.dueLoad("<a x=\"\" x", -9);
        check.dueLoad("<a abcdef=\"\" abcdefg=\"\"/>", -14);
    }

    /** "a < .. (so that of an ELEMENT) that would lie in more than 5 others" */
    private static void lessThatWouldLieTooDeep() {
        String six = "<a><a><a><a><a><a>";
        check.begin("too deep");
        check.dueLoad("<a><a><a><a><a><b/></a></a></a></a></a>", 6);
        check.dueLoad(six + "<b/></a></a></a></a></a></a>", -19);
        check.dueLoad(six + "<b", -19);
        check.dueLoad(six + "<b?", -19);
        check.dueLoad(six + "t<!----><b/>", -27);
        check.beginWith("too deep in insert", "<a><a><a><a><a><a>t</a></a></a></a></a></a>");
        check.dueInsert("<b/>", 5, 2, -1);
        check.dueInsert("<b/>", 5, 3, -1);
        check.dueInsert("<b/>", 6, 0, -1);
        check.dueInsert("<b/>", 6, 1, -1);
        check.dueInsert("<b?", 5, 2, -1);
        check.dueInsert("<b/>", 5, 1, 7);
        check.dueInsert("<b><c/></b>", 4, 2, -4);
        check.dueInsert("<b>t<!----><c/></b>", 4, 2, -12);
        check.dueInsert("<b><c><d><e><f/></e></d></c></b>", 0, 2, 8);
        check.dueInsert("<b><c><d><e><f><g/></f></e></d></c></b>", 0, 2, -16);
    }

    /** "a < with a small letter behind it": with another it is that one which may not stand. */
    private static void lessWithASmallLetterBehindIt() {
        String six = "<a><a><a><a><a><a>";
        check.begin("less and another");
        check.dueLoad(six + "<", -20);
        check.dueLoad(six + "<B/>", -20);
        check.dueLoad(six + "< b/>", -20);
        check.dueLoad(six + "<!b/>", -21);
        check.dueLoad(six + "</b>", -21);
        check.dueLoad(six + "<!----></a></a></a></a></a></a>", 7);
        check.dueInsert("<", 5, 2, -2);
        check.dueInsert("<B/>", 5, 2, -2);
        check.dueInsert("<!---->", 5, 2, 7);
    }

    /** "A text without an error PASSES THE LIMITS": the error is told, if there is one behind. */
    private static void errorGoesBeforeTheLimits() {
        String four = " x=\"\" y=\"\" z=\"\" w=\"\"";
        check.begin("error before limits");
        check.dueLoad("<a" + four + ">?", -25);
        check.dueLoad("<a>012345678901234567890</b>", -27);
        check.dueLoad("<a x=\"012345678901234567890\">", -30);
        check.dueLoad("<a><!--012345678901234567890--x", -31);
        check.dueLoad("<a>" + "x<b/>".repeat(20) + "</b>", -106);
        check.beginWith("error before limits in insert", "<a>" + "x<b/>".repeat(19) + "x</a>");
        check.dueInsert("<c/><c/>", 0, 3, -5);
        check.dueInsert("<c", 0, 3, -3);
        check.dueInsert("012345678901234567890<", 0, 3, -22);
        check.dueInsert("<c" + four + "?", 0, 3, -23);
    }

    /** "when with it one of the other numbers above (40, 200, 3, 20) would be passed" */
    private static void limitsOfATextWithoutAnError() {
        check.begin("limits");
        check.dueLoad("<a>" + "<b/>".repeat(27) + "<b/>" + "</a>", 29);
        check.dueLoad("<a>" + "x<b/>".repeat(20) + "</a>", -2000);
        check.dueLoad("<a x=\"\" y=\"\" z=\"\" w=\"\"/>", -2000);
        check.dueLoad("<a x=\"012345678901234567890\"/>", -2000);
        check.dueLoad("<a>012345678901234567890</a>", -2000);
        check.dueLoad("<a><!--012345678901234567890--></a>", -2000);
        check.due("nodes()", check.store.nodes(), 29);
        for (int k = 0; k < 5; k++) {
            check.dueLoad("<a>" + "<b/>".repeat(27) + "<b/>" + "</a>", 29);
        }
        check.dueLoad("<a>" + "<b/>".repeat(26) + "</a>", -2000);
        check.dueLoad("<a>" + "<b/>".repeat(25) + "</a>", 26);
        check.dueLoad("<a/>", -2000);
    }
}
