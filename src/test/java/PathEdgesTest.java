/** The edges of the paths: a method for each sentence of "PATHS". */
final class PathEdgesTest {
    private static final Check check = new Check();
    /** a 0, its text 1, b 2, c 3 in it, comment 4. */
    private static final String SMALL = "<a>t<b><c/></b><!--d--></a>";
    /** 40 nodes, the most that are there: a 0, texts 1, 3, .. 39 and b 2, 4, .. 38 in turns. */
    private static final String FULL = "<a>" + "x<b/>".repeat(19) + "x</a>";

    public static void main(String[] args) {
        perhapsASlash();
        stepsWithASlashBetween();
        perhapsAnAxisThenAKind();
        children();
        allThatLiesInIt();
        parent();
        allElementsItLiesIn();
        itself();
        siblingsBehindIt();
        siblingsBeforeIt();
        allBehindIt();
        allBeforeIt();
        directions();
        kinds();
        anyNumberOfPredicates();
        not();
        oneOrTwoDigits();
        last();
        elementWithThisAttribute();
        attributeWithThisValue();
        pathLeadsToANode();
        stringValueIsThis();
        stringValueBeginsSo();
        stringIsBetweenTwo();
        stringValueOfEachKind();
        atMost3Deep();
        fromTheDocument();
        documentIsNoNode();
        positionsAmongThoseStillThere();
        fromSeveralNodes();
        firstErrorIsBehindTheLast();
        firstErrorIsACharacter();
        check.end("PathEdgesTest");
    }

    /** "A PATH: perhaps / , then STEPS": at least one. */
    private static void perhapsASlash() {
        check.beginWith("slash", SMALL);
        check.dueQueryAnswer("", 0, -1);
        check.dueQueryAnswer("/", 0, -2);
        check.dueQueryAnswer("//a", 0, -2);
        check.dueQuery("b", 0, 2);
        check.dueQuery("/b", 0);
        check.dueQuery("/a", 0, 0);
        check.dueQuery("a", 0);
    }

    /** "STEPS with / between them" */
    private static void stepsWithASlashBetween() {
        check.beginWith("slashes between", SMALL);
        check.dueQuery("/a/b/c", 4, 3);
        check.dueQuery("b/c", 0, 3);
        check.dueQueryAnswer("b/", 0, -3);
        check.dueQueryAnswer("b//c", 0, -3);
        check.dueQueryAnswer("b[1]c", 0, -5);
        check.dueQueryAnswer("**", 0, -2);
        check.dueQuery("/E./S.".repeat(20), 0, 0, 1, 2, 3, 4);
        check.dueQuery("S./".repeat(39) + "P.", 3, 2);
    }

    /** "A STEP: perhaps an AXIS, then a KIND" */
    private static void perhapsAnAxisThenAKind() {
        check.beginWith("axis and kind", SMALL);
        for (char axis : "DEPABSNLFR".toCharArray()) {
            check.dueQueryAnswer(String.valueOf(axis), 0, -2);
            check.dueQueryAnswer(axis + "[1]", 0, -2);
            check.dueQueryAnswer(axis + "" + axis + "*", 0, -2);
            check.dueQueryAnswer("*" + axis, 0, -2);
        }
        for (char other : "CGHIJKMOQTUVWXYZ@$!~='[]&<".toCharArray()) {
            check.dueQueryAnswer(other + "*", 0, -1);
        }
    }

    /** "none: the children" */
    private static void children() {
        check.beginWith("children", SMALL);
        check.dueQuery(".", 0, 1, 2, 4);
        check.dueQuery(".", 2, 3);
        check.dueQuery(".", 3);
        check.dueQuery(".", 1);
        check.dueQuery(".", 4);
    }

    /** "D all that lies in it"; "E itself and all that lies in it" */
    private static void allThatLiesInIt() {
        check.beginWith("D and E", SMALL);
        check.dueQuery("D.", 0, 1, 2, 3, 4);
        check.dueQuery("D.", 2, 3);
        check.dueQuery("D.", 3);
        check.dueQuery("D.", 1);
        check.dueQuery("E.", 0, 0, 1, 2, 3, 4);
        check.dueQuery("E.", 2, 2, 3);
        check.dueQuery("E.", 3, 3);
        check.dueQuery("E.", 4, 4);
    }

    /** "P its parent" */
    private static void parent() {
        check.beginWith("P", SMALL);
        check.dueQuery("P.", 0);
        check.dueQuery("P.", 1, 0);
        check.dueQuery("P.", 3, 2);
        check.dueQuery("P.", 4, 0);
    }

    /** "A all elements it lies in"; "B itself and these" */
    private static void allElementsItLiesIn() {
        check.beginWith("A and B", SMALL);
        check.dueQuery("A.", 0);
        check.dueQuery("A.", 1, 0);
        check.dueQuery("A.", 3, 0, 2);
        check.dueQuery("B.", 0, 0);
        check.dueQuery("B.", 1, 0, 1);
        check.dueQuery("B.", 3, 0, 2, 3);
        check.beginWith("A and B, the deepest", "<a><a><a><a><a><a>t</a></a></a></a></a></a>");
        check.dueQuery("A.", 6, 0, 1, 2, 3, 4, 5);
        check.dueQuery("B.", 6, 0, 1, 2, 3, 4, 5, 6);
    }

    /** "S itself" */
    private static void itself() {
        check.beginWith("S", SMALL);
        for (int i = 0; i < 5; i++) {
            check.dueQuery("S.", i, i);
        }
        check.dueQuery("S#", 0);
    }

    /** "N the siblings behind it" */
    private static void siblingsBehindIt() {
        check.beginWith("N", SMALL);
        check.dueQuery("N.", 0);
        check.dueQuery("N.", 1, 2, 4);
        check.dueQuery("N.", 2, 4);
        check.dueQuery("N.", 3);
        check.dueQuery("N.", 4);
    }

    /** "L those before it" */
    private static void siblingsBeforeIt() {
        check.beginWith("L", SMALL);
        check.dueQuery("L.", 0);
        check.dueQuery("L.", 1);
        check.dueQuery("L.", 2, 1);
        check.dueQuery("L.", 3);
        check.dueQuery("L.", 4, 1, 2);
    }

    /** "F all behind it in the document that do not lie in it" */
    private static void allBehindIt() {
        check.beginWith("F", SMALL);
        check.dueQuery("F.", 0);
        check.dueQuery("F.", 1, 2, 3, 4);
        check.dueQuery("F.", 2, 4);
        check.dueQuery("F.", 3, 4);
        check.dueQuery("F.", 4);
    }

    /** "R all before it that it does not lie in" */
    private static void allBeforeIt() {
        check.beginWith("R", SMALL);
        check.dueQuery("R.", 0);
        check.dueQuery("R.", 1);
        check.dueQuery("R.", 2, 1);
        check.dueQuery("R.", 3, 1);
        check.dueQuery("R.", 4, 1, 2, 3);
    }

    /** "A, B, L and R go backwards in the document, the others forwards." */
    private static void directions() {
        check.beginWith("directions", "<a><b/><b/><c><d><e/><e/><e/></d><d/></c><b/><b/></a>");
        check.dueQuery("A.[1]", 6, 4);
        check.dueQuery("A.[$]", 6, 0);
        check.dueQuery("B.[1]", 6, 6);
        check.dueQuery("B.[$]", 6, 0);
        check.dueQuery("L.[1]", 3, 2);
        check.dueQuery("L.[$]", 3, 1);
        check.dueQuery("R.[1]", 6, 5);
        check.dueQuery("R.[$]", 6, 1);
        check.dueQuery(".[1]", 0, 1);
        check.dueQuery(".[$]", 0, 10);
        check.dueQuery("D.[1]", 3, 4);
        check.dueQuery("D.[$]", 3, 8);
        check.dueQuery("E.[1]", 3, 3);
        check.dueQuery("E.[$]", 3, 8);
        check.dueQuery("N.[1]", 3, 9);
        check.dueQuery("N.[$]", 3, 10);
        check.dueQuery("F.[1]", 6, 7);
        check.dueQuery("F.[$]", 6, 10);
        check.dueQuery("R.", 9, 1, 2, 3, 4, 5, 6, 7, 8);
        check.dueQuery("B.[1]", 10, 10);
        check.dueQuery("B.[2]", 10, 0);
        check.dueQuery("R.[1]", 10, 9);
    }

    /** "KINDS: a NAME (the elements of this name), * (all elements), # (TEXTS), % (COMMENTS), . (all nodes)." */
    private static void kinds() {
        check.beginWith("kinds", "<a>b<b/><!--b--><ab/><ba/></a>");
        check.dueQuery("b", 0, 2);
        check.dueQuery("*", 0, 2, 4, 5);
        check.dueQuery("#", 0, 1);
        check.dueQuery("%", 0, 3);
        check.dueQuery(".", 0, 1, 2, 3, 4, 5);
        check.dueReplace("c", 2, true);
        check.dueQuery("b", 0);
        check.dueQuery("c", 0, 2);
    }

    /** "then any number of PREDICATES, each in [ ]" */
    private static void anyNumberOfPredicates() {
        check.beginWith("any number", SMALL);
        check.dueQuery("*" + "[1]".repeat(39), 0, 2);
        check.dueQuery("*" + "[b]".repeat(39), 0);
        check.dueQueryAnswer("*[]", 0, -3);
        check.dueQueryAnswer("*[1", 0, -4);
        check.dueQueryAnswer("*[1]]", 0, -5);
        check.dueQueryAnswer("*[1][", 0, -6);
        check.dueQueryAnswer("*[1 ]", 0, -4);
        check.dueQueryAnswer("*[1,2]", 0, -4);
    }

    /** "! and a PREDICATE (not)" */
    private static void not() {
        check.beginWith("not", SMALL);
        check.dueQuery(".[!1]", 0, 2, 4);
        check.dueQuery(".[!!1]", 0, 1);
        check.dueQuery(".[!$]", 0, 1, 2);
        check.dueQuery(".[!c]", 0, 1, 4);
        check.dueQuery(".[!0]", 0, 1, 2, 4);
        check.dueQuery(".[!@x]", 0, 1, 2, 4);
        check.dueQuery(".[!S.='t']", 0, 2, 4);
        check.dueQuery(".[" + "!".repeat(116) + "1]", 0, 1);
        check.dueQuery(".[" + "!".repeat(115) + "1]", 0, 2, 4);
        check.dueQueryAnswer(".[!]", 0, -4);
        check.dueQueryAnswer("!.", 0, -1);
    }

    /** "1 or 2 digits (the POSITION is this)" */
    private static void oneOrTwoDigits() {
        check.beginWith("digits", FULL);
        check.dueQuery("/D.[0]", 0);
        check.dueQuery("/D.[00]", 0);
        check.dueQuery("/D.[1]", 0, 0);
        check.dueQuery("/D.[01]", 0, 0);
        check.dueQuery("/D.[9]", 0, 8);
        check.dueQuery("/D.[10]", 0, 9);
        check.dueQuery("/D.[39]", 0, 38);
        check.dueQuery("/D.[40]", 0, 39);
        check.dueQuery("/D.[41]", 0);
        check.dueQuery("/D.[99]", 0);
        check.dueQueryAnswer("/D.[100]", 0, -7);
        check.dueQueryAnswer("/D.[001]", 0, -7);
        check.dueQueryAnswer("/D.[/]", 0, -6);
        check.dueQueryAnswer("/D.[:]", 0, -5);
        check.dueQueryAnswer("/D.[-1]", 0, -5);
        check.dueQueryAnswer("/D.[1a]", 0, -6);
    }

    /** "$ (it is the last)" */
    private static void last() {
        check.beginWith("last", FULL);
        check.dueQuery("/D.[$]", 0, 39);
        check.dueQuery("b[$]", 0, 38);
        check.dueQuery("/a[$]", 0, 0);
        check.dueQuery("q[$]", 0);
        check.dueQuery("q[!$]", 0);
        check.dueQuery("b[19][$]", 0, 38);
        check.dueQuery("b[20][$]", 0);
        check.dueQueryAnswer("b[$1]", 0, -4);
    }

    /** "@ NAME (it is an element with this attribute)" */
    private static void elementWithThisAttribute() {
        check.beginWith("attribute", "<a x=\"\"><b y=\"1\" x=\"2\" z=\"3\"/>t<!--c--><d/></a>");
        check.dueQuery("E.[@x]", 0, 0, 1);
        check.dueQuery("E.[@y]", 0, 1);
        check.dueQuery("E.[@z]", 0, 1);
        check.dueQuery("E.[@w]", 0);
        check.dueQuery("E.[@xx]", 0);
        check.dueQuery("E.[!@x]", 0, 2, 3, 4);
        check.dueQueryAnswer("E.[@]", 0, -5);
        check.dueQueryAnswer("E.[@1]", 0, -5);
        check.dueQueryAnswer("@x", 0, -1);
    }

    /** "@ NAME = STRING (and with this value)" */
    private static void attributeWithThisValue() {
        check.beginWith("attribute's value", "<a x=\"12\"><b x=\"1\"/><b x=\"\"/><b y=\"1\"/><b x=\"1&lt;&quot;\"/></a>");
        check.dueQuery("E*[@x='1']", 0, 1);
        check.dueQuery("E*[@x='12']", 0, 0);
        check.dueQuery("E*[@x='']", 0, 2);
        check.dueQuery("E*[@x='123']", 0);
        check.dueQuery("E*[@x='1<\"']", 0, 4);
        check.dueQuery("E*[@x='1&lt;&quot;']", 0);
        check.dueQuery("E*[!@x='1']", 0, 0, 2, 3, 4);
        check.dueQueryAnswer("E*[@x~'1']", 0, -6);
    }

    /** "a PATH (it leads to a node)" */
    private static void pathLeadsToANode() {
        check.beginWith("path", SMALL);
        check.dueQuery("E.[.]", 0, 0, 2);
        check.dueQuery("E.[b/c]", 0, 0);
        check.dueQuery("E.[b/b]", 0);
        check.dueQuery("E.[P.]", 0, 1, 2, 3, 4);
        check.dueQuery("E.[/a]", 0, 0, 1, 2, 3, 4);
        check.dueQuery("E.[/b]", 0);
        check.dueQuery("E.[S.[1]]", 0, 0, 1, 2, 3, 4);
        check.dueQuery("E.[S.[2]]", 0);
    }

    /** "PATH = STRING (to one whose STRING VALUE is this)" */
    private static void stringValueIsThis() {
        check.beginWith("is this", "<a>1<b>12</b><b>1</b><c/></a>");
        check.dueQuery("D*[S.='1']", 0, 4);
        check.dueQuery("D*[S.='12']", 0, 2);
        check.dueQuery("D*[S.='123']", 0);
        check.dueQuery("D*[S.='']", 0, 6);
        check.dueQuery("E*[b='1']", 0, 0);
        check.dueQuery("E*[b='2']", 0);
        check.dueQuery("E*[q='']", 0);
        check.dueQuery("E*[!b='1']", 0, 2, 4, 6);
    }

    /** "PATH ~ STRING (to one whose STRING VALUE begins so)" */
    private static void stringValueBeginsSo() {
        check.beginWith("begins so", "<a>1<b>12</b><b>1</b><c/></a>");
        check.dueQuery("D*[S.~'1']", 0, 2, 4);
        check.dueQuery("D*[S.~'12']", 0, 2);
        check.dueQuery("D*[S.~'2']", 0);
        check.dueQuery("D*[S.~'123']", 0);
        check.dueQuery("D*[S.~'']", 0, 2, 4, 6);
        check.dueQuery("E*[S.~'112']", 0, 0);
        check.dueQuery("E*[S.~'1121']", 0, 0);
        check.dueQuery("E*[S.~'11211']", 0);
        check.dueQuery("E*[q~'']", 0);
    }

    /** "A STRING: ' , characters other than ' , ' ." */
    private static void stringIsBetweenTwo() {
        check.beginWith("string", "<a>] [=~\"/!&lt;<b>it's</b></a>");
        check.dueQuery("E*[#='] [=~\"/!<']", 0, 0);
        check.dueQuery("E*[#~']']", 0, 0);
        check.dueQueryAnswer("E*[#='it's']", 0, -10);
        check.dueQueryAnswer("E*[#='x]", 0, -9);
        check.dueQueryAnswer("E*[#='", 0, -7);
        check.dueQueryAnswer("E*[#=x]", 0, -6);
        check.dueQueryAnswer("E*[#=\"x\"]", 0, -6);
        check.dueQueryAnswer("E*[#=", 0, -6);
        check.dueQueryAnswer("E*[#=='x']", 0, -6);
        check.dueQueryAnswer("E*[#='x''y']", 0, -9);
        check.dueQuery("E*[#='" + "x".repeat(112) + "']", 0);
    }

    /** "The STRING VALUE of a TEXT or COMMENT is its value, that of an element those of all TEXTS in it, one behind the other." */
    private static void stringValueOfEachKind() {
        check.beginWith("string value", "<a>1<b>2<!--x--><c>3</c></b><!--y-->4</a>");
        check.dueQuery("E.[S.='1234']", 0, 0);
        check.dueQuery("E.[S.='23']", 0, 2);
        check.dueQuery("E.[S.='3']", 0, 5, 6);
        check.dueQuery("E.[S.='x']", 0, 4);
        check.dueQuery("E.[S.='y']", 0, 7);
        check.dueQuery("E.[S.='4']", 0, 8);
        check.beginWith("string value of none", "<a><b/><!----><!--x--></a>");
        check.dueQuery("E.[S.='']", 0, 0, 1, 2);
        check.dueQuery("E.[S.~'']", 0, 0, 1, 2, 3);
    }

    /** "PREDICATES stand at most 3 deep in one another ([ in [ in [)."; "(a [ that would be the fourth deep too)" */
    private static void atMost3Deep() {
        check.beginWith("3 deep", SMALL);
        check.dueQuery("E.[E.[E.[c]]]", 0, 0, 2);
        check.dueQueryAnswer("E.[E.[E.[E.[c]]]]", 0, -12);
        check.dueQueryAnswer("E.[E.[E.[E.[", 0, -12);
        check.dueQueryAnswer("E.[!E.[!E.[!E.[1]]]]", 0, -15);
        check.dueQuery("E.[E.[E.[1]][E.[1]]][E.[E.[1]]]/E.[E.[E.[1]]]", 3, 3);
        check.dueQueryAnswer("E.[E.[E.[1]][E.[E.[1]]]]", 0, -19);
        check.dueQueryAnswer("S.[S.[S.[S./S.[1]]]]", 0, -15);
    }

    /** "one with it at the DOCUMENT ..: its children are the root alone, D and E give all nodes, other axes nothing" */
    private static void fromTheDocument() {
        check.beginWith("from the document", SMALL);
        check.dueQuery("/.", 3, 0);
        check.dueQuery("/*", 3, 0);
        check.dueQuery("/#", 3);
        check.dueQuery("/D.", 3, 0, 1, 2, 3, 4);
        check.dueQuery("/E.", 3, 0, 1, 2, 3, 4);
        for (char axis : "PABSNLFR".toCharArray()) {
            check.dueQuery("/" + axis + ".", 3);
            check.dueQuery("E.[/" + axis + ".]", 0);
        }
        check.dueQuery("E.[/D%]", 2, 2, 3);
        check.dueQuery("E.[/.]", 2, 2, 3);
    }

    /** "the DOCUMENT, which is no node" */
    private static void documentIsNoNode() {
        check.beginWith("no node", SMALL);
        check.dueQuery("/a/P.", 0);
        check.dueQuery("/a/A.", 0);
        check.dueQuery("/a/B.", 0, 0);
        check.dueQuery("A.[3]", 3);
        check.dueQuery("/E.[1]", 0, 0);
    }

    /** "those stay for which it holds, with the POSITION (from 1) that they have among those that are still there" */
    private static void positionsAmongThoseStillThere() {
        check.beginWith("still there", FULL);
        check.dueQuery(".[1]", 0, 1);
        check.dueQuery("b[1]", 0, 2);
        check.dueQuery(".[!1][1]", 0, 2);
        check.dueQuery(".[!1][!1][1]", 0, 3);
        check.dueQuery(".[2][2]", 0);
        check.dueQuery(".[2][1]", 0, 2);
        check.dueQuery(".[S*][2]", 0, 4);
        check.dueQuery(".[2][S*]", 0, 2);
        check.dueQuery(".[1][S*]", 0);
        check.dueQuery(".[S*][$]", 0, 38);
        check.dueQuery(".[$][S*]", 0);
        check.dueQuery("L.[S*][2]", 39, 36);
        check.dueQuery("L.[!1][$]", 3, 1);
    }

    /** "From several nodes: to all that it leads to from one of them." */
    private static void fromSeveralNodes() {
        check.beginWith("several", "<a><b><c/><c/></b><b><c/><c/></b></a>");
        check.dueQuery("b/c[1]", 0, 2, 5);
        check.dueQuery("b/c[$]", 0, 3, 6);
        check.dueQuery("b/c/P.", 0, 1, 4);
        check.dueQuery("b/c/A.", 0, 0, 1, 4);
        check.dueQuery("Dc/L.", 0, 2, 5);
        check.dueQuery("Dc/R.[1]", 0, 2, 3, 5);
        check.dueQuery("q/E.", 0);
    }

    /** "The first error of a PATH's text is the place of the first character that may not stand there .., or the place behind the last one." */
    private static void firstErrorIsBehindTheLast() {
        check.beginWith("behind the last", SMALL);
        String path = "/Dq[!@x='1']/b[c[12]~'2'][$]";
        for (int size = 0; size < path.length(); size++) {
            boolean isPath = size == 3 || size == 12 || size == 14 || size == 25;
            check.dueQueryAnswer(path.substring(0, size), 0, isPath ? 0 : -1 - size);
        }
        check.dueQuery(path, 0);
    }

    /** The same of characters that may stand in no such place. */
    private static void firstErrorIsACharacter() {
        check.beginWith("a character", SMALL);
        String[] fronts = {"", "/", "/D", "/Da", "/Da[", "/Da[!", "/Da[!@", "/Da[!@x", "/Da[!@x=", "/Da[!@x='1'",
            "/Da[!@x='1']", "b[c", "b[c[", "b[c[1", "b[c[12", "b[c[12]", "b[c[12]~", "b[c[12]~'2'", "b[$", "b[$]", "b/"};
        for (String front : fronts) {
            for (char wrong : "^ {-|".toCharArray()) {
                check.dueQueryAnswer(front + wrong + "*]", 0, -1 - front.length());
            }
        }
        check.dueQueryAnswer("a[@x='1'/b]", 0, -9);
    }
}
