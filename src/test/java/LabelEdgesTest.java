/** The edges of the labels: a method for each sentence of "LABELS", and one for each case of NEW. */
final class LabelEdgesTest {
    private static final Check check = new Check();

    public static void main(String[] args) {
        labelsSortAsTheDocument();
        rootHas1();
        childHasItsParentsInFront();
        tailsOfAnElementThatIsRead();
        newWithoutBoth();
        newWithoutTheRightOfOdd();
        newWithoutTheRightOfEven();
        newWithoutTheLeftOfOdd();
        newWithoutTheLeftOfEven();
        newWithAnOddBetween();
        newOfTwoOdd();
        newOfEqual();
        newOfEvenOnTheLeft();
        newOfEvenOnTheRight();
        newOfRestsGoesOn();
        textHasALabelToo();
        labelsNeverChange();
        atMost16Numbers();
        childrenOfOneWith16();
        childrenThatAreReadWithIt();
        joinedTextNeedsNoLabel();
        check.end("LabelEdgesTest");
    }

    private static void remove(int i) {
        check.due("remove(" + i + ")", check.store.remove(i), 1);
    }

    private static boolean comesBefore(int i, int j) {
        int most = Math.min(check.store.node(i, 5), check.store.node(j, 5));
        for (int k = 0; k < most; k++) {
            if (check.store.label(i, k) != check.store.label(j, k)) {
                return check.store.label(i, k) < check.store.label(j, k);
            }
        }
        return check.store.node(i, 5) < check.store.node(j, 5);
    }

    private static void dueSorted() {
        int[] atPlace = new int[check.store.nodes()];
        for (int i = 0; i < 200; i++) {
            if (check.store.kind(i) > 0) {
                atPlace[check.store.node(i, 6)] = i;
            }
        }
        for (int place = 1; place < atPlace.length; place++) {
            check.due("label of place " + place + " sorts behind", comesBefore(atPlace[place - 1], atPlace[place]), true);
        }
    }

    /** "labels sort by the first number in which they differ, and one that another one begins with comes before that one" */
    private static void labelsSortAsTheDocument() {
        check.beginWith("sorted", "<a><b><c/></b><d/></a>");
        for (int k = 0; k < 60; k++) {
            check.type("<e/>");
            check.store.insert(1 + k * 7 % (k + 3), k % 4);
        }
        check.due("nodes(): some went too deep, the others fill the tree", check.store.nodes(), 40);
        dueSorted();
    }

    /** "The root's is 1." */
    private static void rootHas1() {
        check.beginWith("root", "<a/>");
        check.dueLabel(0, 1);
        check.due("label(0, 1)", check.store.label(0, 1), 0);
        check.dueLoad("<b/>", 1);
        check.dueLabel(1, 1);
    }

    /** "A child's is its parent's with a TAIL behind it: any even numbers, then an odd one." */
    private static void childHasItsParentsInFront() {
        check.beginWith("child", "<a><b/><b><c/></b></a>");
        check.dueLabel(3, 1, 3, 1);
        check.dueInsert("<d/>", 2, 0, 4);
        check.dueLabel(4, 1, 2, 1);
        check.dueInsert("<e/>", 4, 2, 5);
        check.dueLabel(5, 1, 2, 1, 1);
        check.dueInsert("<f/>", 5, 2, 6);
        check.dueLabel(6, 1, 2, 1, 1, 1);
    }

    /** "The tails of the children of an element that is read are 1, 3, 5, .. ." */
    private static void tailsOfAnElementThatIsRead() {
        check.beginWith("tails", "<a>" + "x<b/>".repeat(19) + "x</a>");
        for (int k = 1; k < 40; k++) {
            check.dueLabel(k, 1, 2 * k - 1);
        }
        check.beginWith("tails in insert", "<a><b/></a>");
        check.dueInsert("<c>t<d/><!----><d><e/></d></c>", 1, 0, 2);
        check.dueLabel(2, 1, -1);
        check.dueLabel(3, 1, -1, 1);
        check.dueLabel(4, 1, -1, 3);
        check.dueLabel(5, 1, -1, 5);
        check.dueLabel(6, 1, -1, 7);
        check.dueLabel(7, 1, -1, 7, 1);
    }

    /** "without both: 1" */
    private static void newWithoutBoth() {
        for (int where = 2; where < 4; where++) {
            check.beginWith("without both", "<a><b/></a>");
            check.dueInsert("<c/>", 1, where, 2);
            check.dueLabel(2, 1, 1, 1);
            remove(2);
            check.dueInsert("<c/>", 1, where, 3);
            check.dueLabel(3, 1, 1, 1);
        }
    }

    /** "Without b: a's first number p: p + 2 if it is odd" */
    private static void newWithoutTheRightOfOdd() {
        check.beginWith("p + 2", "<a><b/></a>");
        check.dueInsert("<c/>", 1, 1, 2);
        check.dueLabel(2, 1, 3);
        check.dueInsert("<c/>", 0, 3, 3);
        check.dueLabel(3, 1, 5);
        check.dueInsert("<c/>", 1, 0, 4);
        check.dueLabel(4, 1, -1);
        remove(1);
        remove(2);
        remove(3);
        check.dueInsert("<c/>", 4, 1, 5);
        check.dueLabel(5, 1, 1);
    }

    /** "Without b: .. p + 1 if it is even" */
    private static void newWithoutTheRightOfEven() {
        check.beginWith("p + 1", "<a><b/><b/></a>");
        check.dueInsert("<c/>", 1, 1, 3);
        check.dueLabel(3, 1, 2, 1);
        remove(2);
        check.dueInsert("<c/>", 3, 1, 4);
        check.dueLabel(4, 1, 3);
        check.dueInsert("<c/>", 1, 0, 5);
        check.dueInsert("<c/>", 5, 1, 6);
        check.dueLabel(6, 1, 0, 1);
        remove(1);
        remove(3);
        remove(4);
        check.dueInsert("<c/>", 0, 3, 7);
        check.dueLabel(7, 1, 1);
    }

    /** "Without a: b's first number q: q - 2 if it is odd" */
    private static void newWithoutTheLeftOfOdd() {
        check.beginWith("q - 2", "<a><b/><b/></a>");
        check.dueInsert("<c/>", 1, 0, 3);
        check.dueLabel(3, 1, -1);
        check.dueInsert("<c/>", 0, 2, 4);
        check.dueLabel(4, 1, -3);
        remove(4);
        remove(3);
        remove(1);
        check.dueInsert("<c/>", 2, 0, 5);
        check.dueLabel(5, 1, 1);
    }

    /** "Without a: .. q - 1 if it is even" */
    private static void newWithoutTheLeftOfEven() {
        check.beginWith("q - 1", "<a><b/><b/></a>");
        check.dueInsert("<c/>", 1, 1, 3);
        check.dueLabel(3, 1, 2, 1);
        remove(1);
        check.dueInsert("<c/>", 0, 2, 4);
        check.dueLabel(4, 1, 1);
        check.dueInsert("<c/>", 4, 0, 5);
        check.dueInsert("<c/>", 5, 0, 6);
        check.dueLabel(6, 1, -3);
        check.dueInsert("<c/>", 6, 1, 7);
        check.dueLabel(7, 1, -2, 1);
        remove(6);
        check.dueInsert("<c/>", 7, 0, 8);
        check.dueLabel(8, 1, -3);
    }

    /** "With both: if an odd number lies between p and q, the least such" */
    private static void newWithAnOddBetween() {
        check.beginWith("odd between", "<a><b/><b/><b/><b/><b/></a>");
        check.dueInsert("<c/>", 3, 0, 6);
        check.dueLabel(6, 1, 4, 1);
        check.dueInsert("<c/>", 5, 0, 7);
        check.dueLabel(7, 1, 8, 1);
        remove(2);
        check.dueInsert("<c/>", 1, 1, 8);
        check.dueLabel(8, 1, 3);
        remove(8);
        remove(3);
        remove(4);
        check.dueInsert("<c/>", 6, 1, 9);
        check.dueLabel(9, 1, 5);
        remove(6);
        remove(9);
        remove(7);
        check.dueInsert("<c/>", 5, 0, 10);
        check.dueLabel(10, 1, 3);
        check.dueInsert("<c/>", 5, 0, 11);
        check.dueLabel(11, 1, 5);
        check.dueInsert("<c/>", 5, 0, 12);
        check.dueLabel(12, 1, 7);
        check.dueInsert("<c/>", 5, 0, 13);
        check.dueLabel(13, 1, 8, 1);
    }

    /** "else if p and q are both odd: p + 1 and then 1" */
    private static void newOfTwoOdd() {
        check.beginWith("both odd", "<a><b/><b/></a>");
        check.dueInsert("<c/>", 1, 1, 3);
        check.dueLabel(3, 1, 2, 1);
        check.dueInsert("<c/>", 1, 0, 4);
        check.dueInsert("<c/>", 4, 1, 5);
        check.dueLabel(5, 1, 0, 1);
        check.dueInsert("<c/>", 4, 0, 6);
        check.dueInsert("<c/>", 4, 0, 7);
        check.dueLabel(7, 1, -2, 1);
    }

    /** "else if p = q: p and then NEW of the rests of both" */
    private static void newOfEqual() {
        check.beginWith("equal", "<a><b/><b/></a>");
        check.dueInsert("<c/>", 1, 1, 3);
        check.dueInsert("<c/>", 3, 1, 4);
        check.dueLabel(4, 1, 2, 3);
        check.dueInsert("<c/>", 3, 1, 5);
        check.dueLabel(5, 1, 2, 2, 1);
        check.dueInsert("<c/>", 4, 1, 6);
        check.dueLabel(6, 1, 2, 5);
        remove(4);
        check.dueInsert("<c/>", 6, 0, 7);
        check.dueLabel(7, 1, 2, 3);
        remove(5);
        remove(7);
        check.dueInsert("<c/>", 3, 1, 8);
        check.dueLabel(8, 1, 2, 3);
    }

    /** "else if p is even: p and then NEW of a's rest without a right one" */
    private static void newOfEvenOnTheLeft() {
        check.beginWith("even on the left", "<a><b/><b/></a>");
        check.dueInsert("<c/>", 1, 1, 3);
        check.dueInsert("<c/>", 2, 0, 4);
        check.dueLabel(4, 1, 2, 3);
        check.dueInsert("<c/>", 4, 0, 5);
        check.dueLabel(5, 1, 2, 2, 1);
        remove(4);
        check.dueInsert("<c/>", 2, 0, 6);
        check.dueLabel(6, 1, 2, 3);
    }

    /** "else q and then NEW of b's rest without a left one" */
    private static void newOfEvenOnTheRight() {
        check.beginWith("even on the right", "<a><b/><b/></a>");
        check.dueInsert("<c/>", 1, 1, 3);
        check.dueInsert("<c/>", 1, 1, 4);
        check.dueLabel(4, 1, 2, -1);
        check.dueInsert("<c/>", 4, 1, 5);
        check.dueLabel(5, 1, 2, 0, 1);
        remove(4);
        check.dueInsert("<c/>", 1, 1, 6);
        check.dueLabel(6, 1, 2, -1);
    }

    /** The rests have all cases again, one in the other. */
    private static void newOfRestsGoesOn() {
        check.beginWith("rests", "<a><b/><b/></a>");
        check.dueInsert("<c/>", 1, 1, 3);
        check.dueInsert("<c/>", 3, 1, 4);
        check.dueInsert("<c/>", 3, 1, 5);
        check.dueLabel(5, 1, 2, 2, 1);
        check.dueInsert("<c/>", 3, 1, 6);
        check.dueLabel(6, 1, 2, 2, -1);
        check.dueInsert("<c/>", 5, 1, 7);
        check.dueLabel(7, 1, 2, 2, 3);
        check.dueInsert("<c/>", 6, 1, 8);
        check.dueLabel(8, 1, 2, 2, 0, 1);
        check.dueInsert("<c/>", 6, 1, 9);
        check.dueLabel(9, 1, 2, 2, 0, -1);
        check.dueInsert("<c/>", 8, 1, 10);
        check.dueLabel(10, 1, 2, 2, 0, 3);
        check.dueInsert("<c/>", 8, 1, 11);
        check.dueLabel(11, 1, 2, 2, 0, 2, 1);
    }

    /** TEXTS and COMMENTS are neighbours as ELEMENTS are. */
    private static void textHasALabelToo() {
        check.beginWith("texts", "<a>t<b/></a>");
        check.dueInsert("<!---->", 2, 0, 3);
        check.dueLabel(3, 1, 2, 1);
        check.dueInsert("u", 3, 1, 4);
        check.dueLabel(4, 1, 2, 3);
        check.dueInsert("v", 4, 1, 4);
        check.dueLabel(4, 1, 2, 3);
        remove(2);
        check.dueInsert("<c/>", 0, 3, 5);
        check.dueLabel(5, 1, 3);
    }

    /** "a tree whose nodes have labels that .. never change" */
    private static void labelsNeverChange() {
        check.beginWith("never change", "<a>t<b><c/></b><d/>u</a>");
        remove(1);
        check.dueInsert("<e/>", 2, 0, 6);
        check.dueInsert("<e/>", 4, 0, 7);
        check.dueReplace("z", 2, true);
        check.due("commit()", check.store.commit(), 4);
        check.due("remove(6)", check.store.remove(6), 1);
        check.due("remove(2)", check.store.remove(2), 2);
        check.dueLabel(4, 1, 5);
        check.due("crash()", check.store.crash(), 2);
        check.dueLabel(2, 1, 3);
        check.dueLabel(3, 1, 3, 1);
        check.dueLabel(4, 1, 5);
        check.dueLabel(5, 1, 7);
        check.dueLabel(6, 1, 1);
        check.dueLabel(7, 1, 4, 1);
    }

    /** Two neighbours, in turns put before the one and behind the other, so that both labels have this many numbers. */
    private static int[] neighboursWith(int numbers) {
        check.beginWith("neighbours with " + numbers, "<a><b/><b/></a>");
        int left = 1;
        int right = 2;
        for (int k = 3; k <= numbers; k++) {
            check.type("<c/>");
            right = check.store.insert(left, 1);
            check.type("<c/>");
            left = check.store.insert(right, 0);
        }
        int[] both = {left, right};
        return both;
    }

    /** "Labels have at most 16 numbers."; "or a label of a node made would get too long" */
    private static void atMost16Numbers() {
        int[] both = neighboursWith(16);
        check.due("numbers on the left", check.store.node(both[0], 5), 16);
        check.due("numbers on the right", check.store.node(both[1], 5), 16);
        String before = check.state();
        check.dueInsert("<d/>", both[0], 1, -2000);
        check.dueInsert("<d/>", both[1], 0, -2000);
        check.dueInsert("t", both[0], 1, -2000);
        check.dueInsert("<!---->", both[0], 1, -2000);
        check.due("state", check.state(), before);
        check.dueInsert("<d/>", both[1], 1, 31);
        check.due("numbers beside them", check.store.node(31, 5), 16);
        dueSorted();
    }

    /** The same of a first child, which has one number more than its parent. */
    private static void childrenOfOneWith16() {
        int[] both = neighboursWith(16);
        check.dueInsert("<d/>", both[0], 2, -2000);
        check.dueInsert("t", both[0], 3, -2000);
        check.dueInsert("<!---->", both[1], 3, -2000);
        both = neighboursWith(15);
        check.dueInsert("<d/>", both[0], 2, 29);
        check.due("numbers of the child", check.store.node(29, 5), 16);
        check.dueInsert("t", both[0], 3, 30);
        check.due("numbers of the next child", check.store.node(30, 5), 16);
        check.dueInsert("<d/>", 29, 3, -2000);
        check.dueInsert("<d/>", 30, 0, -2000);
    }

    /** The same of what lies in the node that is made. */
    private static void childrenThatAreReadWithIt() {
        int[] both = neighboursWith(14);
        check.dueInsert("<d><e>t</e></d>", both[0], 1, -2000);
        check.dueInsert("<d><e/><e/></d>", both[0], 1, 27);
        check.due("numbers of the first", check.store.node(28, 5), 16);
        check.due("numbers of the second", check.store.node(29, 5), 16);
        both = neighboursWith(15);
        check.dueInsert("<d><e/></d>", both[0], 1, -2000);
        check.dueInsert("<d/>", both[0], 1, 29);
        check.due("numbers", check.store.node(29, 5), 16);
    }

    /** "a TEXT that is not made counts for its value alone, joined": a label would be too long, but needs not be made. */
    private static void joinedTextNeedsNoLabel() {
        int[] both = neighboursWith(15);
        check.dueInsert("t", both[0], 1, 29);
        check.due("numbers of the text", check.store.node(29, 5), 16);
        check.dueInsert("<d/>", 29, 0, 30);
        check.dueInsert("<d/>", 29, 0, -2000);
        check.dueInsert("u", 29, 0, 29);
        check.dueInsert("v", 30, 1, 29);
        check.dueInsert("w", both[1], 0, 29);
        check.dueWords(29, "vutw");
        check.due("numbers of the text", check.store.node(29, 5), 16);
    }
}
