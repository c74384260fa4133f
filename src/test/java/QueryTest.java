/** Promises 7 and 8: query and result. */
final class QueryTest {
    private static final Check check = new Check();

    /**
     * Numbers: a 0, its text t 1, b 2 (c 3, d 4, text 5 in d), comment 6, b 7 (d 8, text 9, c 10,
     * d 11, text 12), e 13.
     */
    private static final String DOCUMENT =
            "<a x=\"1\">t<b y=\"\"><c/><d>1</d></b><!--12--><b x=\"2\"><d>2</d><c/><d>3</d></b><e/></a>";

    public static void main(String[] args) {
        kinds();
        forwardAxes();
        backwardAxes();
        fromTheDocument();
        positions();
        attributes();
        pathsInPredicates();
        stringValues();
        nots();
        errors();
        errorsInPredicates();
        results();
        noTimeWithoutMeasure();
        check.end("QueryTest");
    }

    private static void kinds() {
        check.beginWith("kinds", DOCUMENT);
        check.dueQuery("b", 0, 2, 7);
        check.dueQuery("*", 0, 2, 7, 13);
        check.dueQuery("#", 0, 1);
        check.dueQuery("%", 0, 6);
        check.dueQuery(".", 0, 1, 2, 6, 7, 13);
        check.dueQuery("q", 0);
        check.dueQuery("abcdef", 0);
        check.dueQuery("t", 0);
        check.dueQuery("b/d", 0, 4, 8, 11);
        check.dueQuery("b/d/#", 0, 5, 9, 12);
    }

    private static void forwardAxes() {
        check.beginWith("forward axes", DOCUMENT);
        check.dueQuery("D.", 2, 3, 4, 5);
        check.dueQuery("E.", 2, 2, 3, 4, 5);
        check.dueQuery("D.", 5);
        check.dueQuery("E.", 5, 5);
        check.dueQuery("P.", 5, 4);
        check.dueQuery("P#", 5);
        check.dueQuery("P.", 0);
        check.dueQuery("Pb", 4, 2);
        check.dueQuery("S.", 6, 6);
        check.dueQuery("S*", 6);
        check.dueQuery("N.", 2, 6, 7, 13);
        check.dueQuery("N.", 0);
        check.dueQuery("N.[1]", 2, 6);
        check.dueQuery("N.[$]", 2, 13);
        check.dueQuery("F.", 2, 6, 7, 8, 9, 10, 11, 12, 13);
        check.dueQuery("F.", 5, 6, 7, 8, 9, 10, 11, 12, 13);
        check.dueQuery("F.", 0);
        check.dueQuery("F*[1]", 5, 7);
        check.dueQuery("F*[$]", 5, 13);
    }

    private static void backwardAxes() {
        check.beginWith("backward axes", DOCUMENT);
        check.dueQuery("A.", 9, 0, 7, 8);
        check.dueQuery("A.[1]", 9, 8);
        check.dueQuery("A.[2]", 9, 7);
        check.dueQuery("A.[$]", 9, 0);
        check.dueQuery("A.", 0);
        check.dueQuery("B.", 9, 0, 7, 8, 9);
        check.dueQuery("B.[1]", 9, 9);
        check.dueQuery("B*[1]", 9, 8);
        check.dueQuery("B.", 0, 0);
        check.dueQuery("L.", 11, 8, 10);
        check.dueQuery("L.[1]", 11, 10);
        check.dueQuery("L.[$]", 11, 8);
        check.dueQuery("L.", 0);
        check.dueQuery("R.", 8, 1, 2, 3, 4, 5, 6);
        check.dueQuery("R.[1]", 8, 6);
        check.dueQuery("R.[$]", 8, 1);
        check.dueQuery("R*[2]", 8, 3);
        check.dueQuery("R.", 0);
        check.dueQuery("D#/R*[1]", 0, 3, 4, 10);
    }

    private static void fromTheDocument() {
        check.beginWith("from the document", DOCUMENT);
        check.dueQuery("/a", 9, 0);
        check.dueQuery("/.", 9, 0);
        check.dueQuery("/*[1]", 9, 0);
        check.dueQuery("/b", 9);
        check.dueQuery("/#", 9);
        check.dueQuery("/D.", 9, 0, 1, 2, 3, 4, 5, 6, 7, 8, 9, 10, 11, 12, 13);
        check.dueQuery("/E*", 9, 0, 2, 3, 4, 7, 8, 10, 11, 13);
        check.dueQuery("/Dd[2]", 9, 8);
        check.dueQuery("/Dd[$]", 9, 11);
        for (char axis : "PABSNLFR".toCharArray()) {
            check.dueQuery("/" + axis + ".", 9);
        }
        check.dueQuery("/a/b/c", 9, 3, 10);
        check.dueQuery("D*[/a]", 7, 8, 10, 11);
        check.dueQuery("D*[/b]", 7);
        check.dueQuery("E.[/b]", 0);
        check.dueQuery("D*[/S.]", 7);
        check.dueQuery("/a/P.", 3);
    }

    private static void positions() {
        check.beginWith("positions", DOCUMENT);
        check.dueQuery("b/d[1]", 0, 4, 8);
        check.dueQuery("b/d[2]", 0, 11);
        check.dueQuery("b/d[$]", 0, 4, 11);
        check.dueQuery("Dd[02]", 0, 8);
        check.dueQuery("D.[10]", 0, 10);
        check.dueQuery("D.[13]", 0, 13);
        check.dueQuery("D.[14]", 0);
        check.dueQuery("D.[99]", 0);
        check.dueQuery("D.[0]", 0);
        check.dueQuery("D.[00]", 0);
        check.dueQuery("D*[d][2]", 0, 7);
        check.dueQuery("D*[2][d]", 0);
        check.dueQuery("D*[!1][1]", 0, 3);
        check.dueQuery("Dd[!$][$]", 0, 8);
        check.dueQuery("Dd[1][1][$]", 0, 4);
        check.dueQuery("Dd[2][2]", 0);
        check.dueQuery("L.[!1][1]", 13, 6);
        check.dueQuery("D*/N.[1]", 0, 4, 6, 10, 11, 13);
    }

    private static void attributes() {
        check.beginWith("attributes", DOCUMENT);
        check.dueQuery("E.[@x]", 0, 0, 7);
        check.dueQuery("E.[@x='1']", 0, 0);
        check.dueQuery("E.[@x='']", 0);
        check.dueQuery("E.[@y='']", 0, 2);
        check.dueQuery("E.[@y]", 0, 2);
        check.dueQuery("E.[@xy]", 0);
        check.dueQuery("E.[@x='12']", 0);
        check.dueQuery("E*[!@x]", 2, 2, 3, 4);
        check.dueQuery("E#[!@x]", 2, 5);
        check.dueQuery("E.[@x][2]", 0, 7);
        check.beginWith("attributes with entities", "<a x=\"&lt;&quot;&apos;\" y=\"&amp;lt;\"/>");
        check.dueQuery("S.[@y='&lt;']", 0, 0);
        check.dueQuery("S.[@x='<\"']", 0);
    }

    private static void pathsInPredicates() {
        check.beginWith("paths in predicates", DOCUMENT);
        check.dueQuery("D.[c]", 0, 2, 7);
        check.dueQuery("D.[c/Nd]", 0, 2, 7);
        check.dueQuery("D.[c/Ld]", 0, 7);
        check.dueQuery("Dd[P.[c[$]]]", 0, 4, 8, 11);
        check.dueQuery("Dc[P.[d[Lc]]]", 0, 3, 10);
        check.dueQuery("Dc[P.[c[$][Ld]]]", 0, 10);
        check.dueQuery("D.[P.[@x]]", 0, 1, 2, 6, 7, 8, 10, 11, 13);
        check.dueQuery("D.[A.[3]]", 0, 5, 9, 12);
        check.dueQuery("Dd[Rd]", 0, 8, 11);
        check.dueQuery("Dd[Rd[2]]", 0, 11);
        check.dueQuery("D.[S.[2]]", 0);
        check.dueQuery("D*[/D*[@y]]", 7, 8, 10, 11);
    }

    private static void stringValues() {
        check.beginWith("string values", DOCUMENT);
        check.dueQuery("D.[S.='1']", 0, 2, 4, 5);
        check.dueQuery("D.[S.='23']", 0, 7);
        check.dueQuery("D.[S.~'2']", 0, 7, 8, 9);
        check.dueQuery("D.[S.~'1']", 0, 2, 4, 5, 6);
        check.dueQuery("D.[S.='12']", 0, 6);
        check.dueQuery("D.[S.='']", 0, 3, 10, 13);
        check.dueQuery("D*[S.~'']", 0, 2, 3, 4, 7, 8, 10, 11, 13);
        check.dueQuery("E.[S.='t123']", 0, 0);
        check.dueQuery("E.[S.~'t1']", 0, 0);
        check.dueQuery("E.[S.='t12']", 0);
        check.dueQuery("E.[S.~'t1234']", 0);
        check.dueQuery("D*[#='2']", 0, 8);
        check.dueQuery("D*[d='3']", 0, 7);
        check.dueQuery("D*[d/#~'3']", 0, 7);
        check.dueQuery("D*[%='12']", 0);
        check.dueQuery("E*[%='12']", 0, 0);
        check.beginWith("string values with signs", "<a>]['\"&lt;<b>x y</b></a>");
        check.dueQuery("Db[S.='x y']", 0, 2);
        check.dueQuery("S*[#~'][']", 0, 0);
    }

    private static void nots() {
        check.beginWith("nots", DOCUMENT);
        check.dueQuery("D*[!*]", 0, 3, 4, 8, 10, 11, 13);
        check.dueQuery("D*[!!*]", 0, 2, 7);
        check.dueQuery("D*[!!!*]", 0, 3, 4, 8, 10, 11, 13);
        check.dueQuery("Dd[!1]", 0, 8, 11);
        check.dueQuery("Dd[!$]", 0, 4, 8);
        check.dueQuery("Dd[!0]", 0, 4, 8, 11);
        check.dueQuery("Dd[!#='2']", 0, 4, 11);
        check.dueQuery("b[!@x='2']", 0, 2);
        check.dueQuery("b[!@x='1']", 0, 2, 7);
        check.dueQuery("Dd[!P.[!@x]]", 0, 8, 11);
        check.dueQuery("D*[" + "!".repeat(110) + "#]", 0, 4, 8, 11);
    }

    private static void errors() {
        check.beginWith("errors", DOCUMENT);
        check.dueQueryAnswer("", 0, -1);
        check.dueQueryAnswer("/", 0, -2);
        check.dueQueryAnswer("//a", 0, -2);
        check.dueQueryAnswer("a/", 0, -3);
        check.dueQueryAnswer("a//b", 0, -3);
        check.dueQueryAnswer("D", 0, -2);
        check.dueQueryAnswer("DDa", 0, -2);
        check.dueQueryAnswer("Ca", 0, -1);
        check.dueQueryAnswer("D a", 0, -2);
        check.dueQueryAnswer(" a", 0, -1);
        check.dueQueryAnswer("a ", 0, -2);
        check.dueQueryAnswer("aD", 0, -2);
        check.dueQueryAnswer("a*", 0, -2);
        check.dueQueryAnswer("..", 0, -2);
        check.dueQueryAnswer("*a", 0, -2);
        check.dueQueryAnswer("abcdefg", 0, -7);
        check.dueQueryAnswer("Dabcdefg", 0, -8);
        check.dueQueryAnswer("a]", 0, -2);
        check.dueQueryAnswer("a='x'", 0, -2);
        check.dueQueryAnswer("@x", 0, -1);
        check.dueQueryAnswer("1", 0, -1);
        check.dueQueryAnswer("[1]", 0, -1);
        check.dueQueryAnswer("D[1]", 0, -2);
        check.dueQueryAnswer("a[1]b", 0, -5);
        check.dueQueryAnswer("(", 14, -1000);
        check.dueQueryAnswer("a", -1, -1000);
        check.dueQueryAnswer("a", Integer.MIN_VALUE, -1000);
        check.dueQueryAnswer("a", Integer.MAX_VALUE, -1000);
    }

    private static void errorsInPredicates() {
        check.beginWith("errors in predicates", DOCUMENT);
        check.dueQueryAnswer("a[", 0, -3);
        check.dueQueryAnswer("a[]", 0, -3);
        check.dueQueryAnswer("a[1", 0, -4);
        check.dueQueryAnswer("a[123]", 0, -5);
        check.dueQueryAnswer("a[1b]", 0, -4);
        check.dueQueryAnswer("a[-1]", 0, -3);
        check.dueQueryAnswer("a[$", 0, -4);
        check.dueQueryAnswer("a[$$]", 0, -4);
        check.dueQueryAnswer("a[!]", 0, -4);
        check.dueQueryAnswer("a[!", 0, -4);
        check.dueQueryAnswer("a[1!]", 0, -4);
        check.dueQueryAnswer("a[@]", 0, -4);
        check.dueQueryAnswer("a[@*]", 0, -4);
        check.dueQueryAnswer("a[@x~'1']", 0, -5);
        check.dueQueryAnswer("a[@x/b]", 0, -5);
        check.dueQueryAnswer("a[@abcdefg]", 0, -10);
        check.dueQueryAnswer("a[@x=", 0, -6);
        check.dueQueryAnswer("a[@x=1]", 0, -6);
        check.dueQueryAnswer("a[@x='1]", 0, -9);
        check.dueQueryAnswer("a[@x='1'", 0, -9);
        check.dueQueryAnswer("a[@x='1'1]", 0, -9);
        check.dueQueryAnswer("a[b='1'/c]", 0, -8);
        check.dueQueryAnswer("a[b~]", 0, -5);
        check.dueQueryAnswer("a[b~'", 0, -6);
        check.dueQueryAnswer("a[='1']", 0, -3);
        check.dueQueryAnswer("a[b[1]", 0, -7);
        check.dueQueryAnswer("a[1]]", 0, -5);
        check.dueQueryAnswer("a[b/]", 0, -5);
        check.dueQueryAnswer("a[/]", 0, -4);
        check.dueQuery("a[b[c[1]]]", 0);
        check.dueQueryAnswer("a[b[c[d[1]]]]", 0, -8);
        check.dueQueryAnswer("a[b[c[d[", 0, -8);
        check.dueQueryAnswer("a[!b[!c[!d[1]]]]", 0, -11);
        check.dueQuery("a[b[c[1][1]][1][c[1]]][b[c[1]]]", 0);
    }

    private static void results() {
        check.beginWith("results", DOCUMENT);
        check.due("result(0) ahead of a query", check.store.result(0), -1000);
        check.dueQuery("b", 0, 2, 7);
        check.due("result(-1)", check.store.result(-1), -1000);
        check.due("result(least)", check.store.result(Integer.MIN_VALUE), -1000);
        check.due("result(greatest)", check.store.result(Integer.MAX_VALUE), -1000);
        check.dueQueryAnswer("b[", 0, -3);
        check.dueQueryAnswer("b", 99, -1000);
        check.due("result(1) behind refused queries", check.store.result(1), 7);
        check.due("remove(7)", check.store.remove(7), 6);
        check.due("result(1) behind its removal", check.store.result(1), 7);
        check.due("crash()", check.store.crash(), 1);
        check.due("result(0) behind a crash", check.store.result(0), 2);
        check.dueLoad("<z/>", 1);
        check.due("result(1) behind a load", check.store.result(1), 7);
        check.due("commit()", check.store.commit(), 0);
        check.due("result(1) behind a commit", check.store.result(1), 7);
        check.dueQuery("/z", 14, 14);
        check.dueQuery("z", 14);
        check.due("result(0) of none", check.store.result(0), -1000);
    }

    /** Each of these goes from many nodes to many, three PREDICATES deep. */
    private static void noTimeWithoutMeasure() {
        check.beginWith("no time without measure", "<a>" + "x<b/>".repeat(19) + "x</a>");
        String[] axes = {"F.", "R.", "N.", "L.", "E.", "B."};
        for (String axis : axes) {
            String steps = "/E./" + axis + "/R./F./E.";
            String path = steps + "[" + steps + "[" + steps + "[" + steps + "]]]";
            check.type(path);
            check.due("query of " + path, check.store.query(0) >= 0, true);
        }
    }
}
