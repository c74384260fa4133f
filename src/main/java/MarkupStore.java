import java.util.ArrayList;
import java.util.Arrays;

/** A store for one document of marked-up text; ../shared/DOC.md says what each call answers. */
public final class MarkupStore {
    public static final int MISSING = -1000;
    public static final int REFUSED = -2000;

    private static final int BUFFER_LIMIT = 120;
    private static final int NAME_LIMIT = 6;
    private static final int THERE_LIMIT = 40;
    private static final int MADE_LIMIT = 200;
    private static final int ATTRIBUTE_LIMIT = 3;
    private static final int DEPTH_LIMIT = 5;
    private static final int VALUE_LIMIT = 20;
    private static final int LABEL_LIMIT = 16;
    private static final int PREDICATE_LIMIT = 3;

    private static final int ELEMENT = 1;
    private static final int TEXT = 2;
    private static final int COMMENT = 3;

    private static final int BEFORE = 0;
    private static final int BEHIND = 1;
    private static final int FIRST_CHILD = 2;
    private static final int LAST_CHILD = 3;

    private static final int NONE = -1;

    private final StringBuilder buffer;
    private final StringBuilder scratch;
    private final Tree tree;
    private final int[] found;
    private int foundSize;
    private int changes;

    public MarkupStore() {
        buffer = new StringBuilder();
        scratch = new StringBuilder();
        tree = new Tree();
        found = new int[THERE_LIMIT];
        foundSize = 0;
        changes = 0;
    }

    public boolean type(char c) {
        if (c < 32 || c > 126 || buffer.length() >= BUFFER_LIMIT) {
            return false;
        }
        buffer.append(c);
        return true;
    }

    public int load() {
        MarkupReader reader = new MarkupReader(useBuffer(), scratch);
        reader.readDocument();
        if (reader.failed()) {
            return -1 - reader.wrong;
        }
        int size = reader.read.size();
        if (reader.passesLimits() || size > THERE_LIMIT || !tree.mayMake(size)) {
            return REFUSED;
        }
        tree.clear();
        tree.put(reader.read, 0);
        beginBatch();
        return size;
    }

    public int insert(int i, int where) {
        String text = useBuffer();
        Node beside = tree.find(i);
        if (beside == null) {
            return MISSING;
        }
        Node parent = where == BEFORE || where == BEHIND ? beside.parent : beside;
        if (where < BEFORE || where > LAST_CHILD || parent == null || parent.kind != ELEMENT) {
            return REFUSED;
        }
        int spot = where == BEFORE ? beside.place
                : where == FIRST_CHILD ? beside.place + 1 : tree.endOf(beside);
        Node left = tree.childBefore(parent, spot);
        Node right = tree.childFrom(parent, spot);
        MarkupReader reader = new MarkupReader(text, scratch);
        reader.readOne(parent, Node.labelBetween(parent, left, right));
        if (reader.failed()) {
            return -1 - reader.wrong;
        }
        if (reader.startsWithText() && isText(left)) {
            return joinNew(left, left.text, reader.firstText());
        }
        if (reader.startsWithText() && isText(right)) {
            return joinNew(right, reader.firstText(), right.text);
        }
        return putNew(reader, spot);
    }

    public int remove(int i) {
        Node gone = tree.find(i);
        if (gone == null) {
            return MISSING;
        }
        if (gone.parent == null) {
            return REFUSED;
        }
        int end = tree.endOf(gone);
        Node left = tree.childBefore(gone.parent, gone.place);
        Node right = tree.childFrom(gone.parent, end);
        if (isText(left) && isText(right)) {
            if (left.text.length() + right.text.length() > VALUE_LIMIT) {
                return REFUSED;
            }
            left.text = joined(left.text, right.text);
            end = right.place + 1;
        }
        int count = end - gone.place;
        tree.takeOut(gone.place, end);
        changes++;
        return count;
    }

    public boolean replace(int i) {
        String text = useBuffer();
        Node changed = tree.find(i);
        if (changed == null || !mayBecome(changed.kind, text)) {
            return false;
        }
        changed.text = text;
        changes++;
        return true;
    }

    public int query(int i) {
        String text = useBuffer();
        Node start = tree.find(i);
        if (start == null) {
            return MISSING;
        }
        PathReader reader = new PathReader(text);
        Path path = reader.readWhole();
        if (reader.failed()) {
            return -1 - reader.wrong;
        }
        Walker walker = new Walker(tree);
        walker.prepare(path);
        keepFound(walker.goFrom(start.place, path));
        return foundSize;
    }

    public int result(int k) {
        return k >= 0 && k < foundSize ? found[k] : MISSING;
    }

    public int commit() {
        int had = changes;
        beginBatch();
        return had;
    }

    public int crash() {
        int had = changes;
        buffer.setLength(0);
        tree.giveBack();
        beginBatch();
        return had;
    }

    public int kind(int i) {
        Node asked = tree.find(i);
        return asked == null ? MISSING : asked.kind;
    }

    public int node(int i, int what) {
        Node asked = tree.find(i);
        if (asked == null) {
            return MISSING;
        }
        switch (what) {
            case 0:
                return asked.parent == null ? NONE : asked.parent.number;
            case 1:
                return tree.childrenWithin(asked, 0, tree.size);
            case 2:
                return asked.parent == null ? 0 : tree.childrenWithin(asked.parent, 0, asked.place);
            case 3:
                return asked.attributes.size();
            case 4:
                return asked.text.length();
            case 5:
                return asked.label.length;
            case 6:
                return asked.place;
            default:
                return MISSING;
        }
    }

    public int letter(int i, int k) {
        Node asked = tree.find(i);
        return asked == null || k < 0 || k >= asked.text.length() ? 0 : asked.text.charAt(k);
    }

    public int label(int i, int k) {
        Node asked = tree.find(i);
        return asked == null || k < 0 || k >= asked.label.length ? 0 : asked.label[k];
    }

    public int root() {
        return tree.size == 0 ? MISSING : tree.order[0].number;
    }

    public int nodes() {
        return tree.size;
    }

    public int length() {
        Scribe scribe = new Scribe(NONE);
        scribe.write(tree);
        return scribe.count;
    }

    public int written(int k) {
        Scribe scribe = new Scribe(k);
        scribe.write(tree);
        return scribe.seen;
    }

    private String useBuffer() {
        String text = buffer.toString();
        buffer.setLength(0);
        return text;
    }

    private void beginBatch() {
        tree.keep();
        changes = 0;
    }

    private int joinNew(Node text, String front, String end) {
        if (front.length() + end.length() > VALUE_LIMIT) {
            return REFUSED;
        }
        text.text = joined(front, end);
        changes++;
        return text.number;
    }

    private int putNew(MarkupReader reader, int spot) {
        int count = reader.read.size();
        if (reader.passesLimits() || tree.size + count > THERE_LIMIT || !tree.mayMake(count)) {
            return REFUSED;
        }
        tree.put(reader.read, spot);
        changes++;
        return tree.order[spot].number;
    }

    private void keepFound(long places) {
        foundSize = 0;
        for (int place = 0; place < tree.size; place++) {
            if (Walker.has(places, place)) {
                found[foundSize] = tree.order[place].number;
                foundSize++;
            }
        }
    }

    private static boolean isText(Node node) {
        return node != null && node.kind == TEXT;
    }

    private static boolean mayBecome(int kind, String text) {
        if (text.isEmpty() || text.length() > VALUE_LIMIT) {
            return false;
        }
        if (kind == ELEMENT) {
            return isName(text);
        }
        return kind != COMMENT || mayBeComment(text);
    }

    private static boolean isName(String text) {
        for (int k = 0; k < text.length(); k++) {
            if (!isSmallLetter(text.charAt(k))) {
                return false;
            }
        }
        return !text.isEmpty() && text.length() <= NAME_LIMIT;
    }

    /** As it is written out, -- may stand only in a COMMENT's end, so no - may touch that end either. */
    private static boolean mayBeComment(String text) {
        for (int k = 0; k < text.length(); k++) {
            boolean dashFollows = k + 1 == text.length() || text.charAt(k + 1) == '-';
            if (text.charAt(k) == '-' && dashFollows) {
                return false;
            }
        }
        return true;
    }

    private static boolean isSmallLetter(char c) {
        return c >= 'a' && c <= 'z';
    }

    private String joined(String front, String end) {
        scratch.setLength(0);
        scratch.append(front);
        scratch.append(end);
        return scratch.toString();
    }

    /** An attribute of an element; it never changes. */
    private record Attribute(String name, String value) {
    }

    /** A node, there or not: all but its place and its text stays as it was made. */
    private static final class Node {
        final int kind;
        final Node parent;
        final int depth;
        final int[] label;
        final ArrayList<Attribute> attributes;
        int number;
        int place;
        String text;
        String keptText;

        Node(int kind, Node parent, int[] label) {
            this.kind = kind;
            this.parent = parent;
            this.depth = parent == null ? 0 : parent.depth + 1;
            this.label = label;
            this.attributes = new ArrayList<>();
            this.number = NONE;
            this.place = NONE;
            this.text = "";
            this.keptText = "";
        }

        Attribute attributeNamed(String name) {
            for (int k = 0; k < attributes.size(); k++) {
                if (attributes.get(k).name().equals(name)) {
                    return attributes.get(k);
                }
            }
            return null;
        }

        /** The label of the child that an element has in this place when it is read. */
        int[] labelOfChild(int index) {
            int[] longer = Arrays.copyOf(label, label.length + 1);
            longer[label.length] = 2 * index + 1;
            return longer;
        }

        /**
         * The label of a node that comes between two neighbours, either of which may be none. Each
         * turn is one use of NEW, on the numbers of both tails from this place on.
         */
        static int[] labelBetween(Node parent, Node left, Node right) {
            int[] a = left == null ? null : left.label;
            int[] b = right == null ? null : right.label;
            int[] row = Arrays.copyOf(parent.label, LABEL_LIMIT + 2);
            int at = parent.label.length;
            boolean open = true;
            while (open && at <= LABEL_LIMIT) {
                boolean hasLeft = a != null && at < a.length;
                boolean hasRight = b != null && at < b.length;
                int p = hasLeft ? a[at] : 0;
                int q = hasRight ? b[at] : 0;
                int odd = hasLeft ? oddAbove(p) : hasRight ? oddBelow(q) : 1;
                if (!hasLeft || !hasRight || odd < q) {
                    row[at] = odd;
                    open = false;
                } else if (isOdd(p) && isOdd(q)) {
                    row[at] = p + 1;
                    at++;
                    row[at] = 1;
                    open = false;
                } else if (p == q) {
                    row[at] = p;
                } else if (!isOdd(p)) {
                    row[at] = p;
                    b = null;
                } else {
                    row[at] = q;
                    a = null;
                }
                at++;
            }
            return Arrays.copyOf(row, at);
        }

        private static boolean isOdd(int number) {
            return (number & 1) == 1;
        }

        private static int oddAbove(int number) {
            return isOdd(number) ? number + 2 : number + 1;
        }

        private static int oddBelow(int number) {
            return isOdd(number) ? number - 2 : number - 1;
        }
    }

    /**
     * The nodes that are there, in the order of the document. Parents and labels never change, so
     * this order and the texts are all that a batch can change, and all that is kept for a crash.
     */
    private static final class Tree {
        final Node[] made;
        int madeSize;
        final Node[] order;
        int size;
        final Node[] kept;
        int keptSize;

        Tree() {
            made = new Node[MADE_LIMIT];
            order = new Node[THERE_LIMIT];
            kept = new Node[THERE_LIMIT];
        }

        Node find(int number) {
            if (number < 0 || number >= madeSize || made[number].place == NONE) {
                return null;
            }
            return made[number];
        }

        boolean mayMake(int count) {
            return madeSize + count <= MADE_LIMIT;
        }

        /** The place behind the last node that lies in this one. */
        int endOf(Node node) {
            int end = node.place + 1;
            while (end < size && order[end].depth > node.depth) {
                end++;
            }
            return end;
        }

        Node childBefore(Node parent, int spot) {
            for (int place = spot - 1; place > parent.place; place--) {
                if (order[place].parent == parent) {
                    return order[place];
                }
            }
            return null;
        }

        Node childFrom(Node parent, int spot) {
            for (int place = spot; place < size; place++) {
                if (order[place].parent == parent) {
                    return order[place];
                }
            }
            return null;
        }

        int childrenWithin(Node parent, int from, int to) {
            int count = 0;
            for (int place = from; place < to; place++) {
                if (order[place].parent == parent) {
                    count++;
                }
            }
            return count;
        }

        /** Whoever calls this has made sure that the limits are kept. */
        void put(ArrayList<Node> read, int spot) {
            int count = read.size();
            for (int place = size - 1; place >= spot; place--) {
                order[place + count] = order[place];
            }
            for (int k = 0; k < count; k++) {
                Node node = read.get(k);
                node.number = madeSize;
                made[madeSize] = node;
                madeSize++;
                order[spot + k] = node;
            }
            size += count;
            setPlaces();
        }

        void takeOut(int from, int to) {
            for (int place = from; place < to; place++) {
                order[place].place = NONE;
            }
            for (int place = to; place < size; place++) {
                order[place - to + from] = order[place];
            }
            size -= to - from;
            setPlaces();
        }

        void clear() {
            takeOut(0, size);
        }

        void keep() {
            for (int place = 0; place < size; place++) {
                kept[place] = order[place];
                kept[place].keptText = kept[place].text;
            }
            keptSize = size;
        }

        void giveBack() {
            clear();
            for (int place = 0; place < keptSize; place++) {
                order[place] = kept[place];
                order[place].text = order[place].keptText;
            }
            size = keptSize;
            setPlaces();
        }

        private void setPlaces() {
            for (int place = 0; place < size; place++) {
                order[place].place = place;
            }
        }
    }

    /** What reading markup and reading paths share: a place in a text, and the first error. */
    private abstract static class TextReader {
        /** No character of the buffer is this one, so it can tell the place behind the last. */
        static final char END = 0;

        final String text;
        int at;
        int wrong;

        TextReader(String text) {
            this.text = text;
            this.at = 0;
            this.wrong = NONE;
        }

        boolean failed() {
            return wrong != NONE;
        }

        boolean failAt(int place) {
            wrong = place;
            return false;
        }

        char seen(int place) {
            return place < text.length() ? text.charAt(place) : END;
        }

        boolean take(char due) {
            if (seen(at) != due) {
                return failAt(at);
            }
            at++;
            return true;
        }

        String readName() {
            int start = at;
            while (at - start < NAME_LIMIT && isSmallLetter(seen(at))) {
                at++;
            }
            if (at == start) {
                failAt(at);
            }
            return text.substring(start, at);
        }

        boolean readEnd() {
            return at == text.length() || failAt(at);
        }
    }

    /** Reads a DOCUMENT, or CONTENT that makes one node, into nodes that have no numbers yet. */
    private static final class MarkupReader extends TextReader {
        final ArrayList<Node> read;
        private final StringBuilder scratch;
        private boolean tooMuch;

        MarkupReader(String text, StringBuilder scratch) {
            super(text);
            read = new ArrayList<>();
            this.scratch = scratch;
            tooMuch = false;
        }

        /** The limits of each node for itself: how many there may be is not known here. */
        boolean passesLimits() {
            for (int k = 0; k < read.size(); k++) {
                if (read.get(k).label.length > LABEL_LIMIT) {
                    return true;
                }
            }
            return tooMuch;
        }

        boolean startsWithText() {
            return !read.isEmpty() && isText(read.get(0));
        }

        String firstText() {
            return read.isEmpty() ? "" : read.get(0).text;
        }

        boolean readDocument() {
            if (seen(0) != '<') {
                return failAt(0);
            }
            if (!isSmallLetter(seen(1))) {
                return failAt(1);
            }
            int[] label = {1};
            return readElement(null, label) && readEnd();
        }

        boolean readOne(Node parent, int[] label) {
            if (text.isEmpty()) {
                return failAt(0);
            }
            return readPiece(parent, label) && readEnd();
        }

        private boolean readPiece(Node parent, int[] label) {
            if (seen(at) != '<') {
                make(TEXT, parent, label).text = readValue('<');
                return !failed();
            }
            char next = seen(at + 1);
            if (next == '!') {
                return readComment(parent, label);
            }
            if (!isSmallLetter(next)) {
                return failAt(at + 1);
            }
            if (parent.depth >= DEPTH_LIMIT) {
                return failAt(at);
            }
            return readElement(parent, label);
        }

        private Node make(int kind, Node parent, int[] label) {
            Node node = new Node(kind, parent, label);
            read.add(node);
            return node;
        }

        private boolean readElement(Node parent, int[] label) {
            at++;
            Node element = make(ELEMENT, parent, label);
            element.text = readName();
            for (int k = 0; k < text.length() && seen(at) == ' '; k++) {
                if (!readAttribute(element)) {
                    return false;
                }
            }
            tooMuch = tooMuch || element.attributes.size() > ATTRIBUTE_LIMIT;
            if (seen(at) == '/') {
                at++;
                return take('>');
            }
            return take('>') && readContent(element) && readEndTag(element);
        }

        private boolean readAttribute(Node element) {
            at++;
            int start = at;
            String name = readName();
            if (failed()) {
                return false;
            }
            if (element.attributeNamed(name) != null) {
                return failAt(start);
            }
            if (!take('=') || !take('"')) {
                return false;
            }
            String value = readValue('"');
            if (failed() || !take('"')) {
                return false;
            }
            element.attributes.add(new Attribute(name, value));
            return true;
        }

        private boolean readContent(Node element) {
            for (int k = 0; k < text.length(); k++) {
                if (at == text.length()) {
                    return failAt(at);
                }
                if (seen(at) == '<' && seen(at + 1) == '/') {
                    return true;
                }
                if (!readPiece(element, element.labelOfChild(k))) {
                    return false;
                }
            }
            return failAt(at);
        }

        private boolean readEndTag(Node element) {
            at += 2;
            for (int k = 0; k < element.text.length(); k++) {
                if (!take(element.text.charAt(k))) {
                    return false;
                }
            }
            return take('>');
        }

        private boolean readComment(Node parent, int[] label) {
            if (!take('<') || !take('!') || !take('-') || !take('-')) {
                return false;
            }
            int start = at;
            while (at < text.length() && !(seen(at) == '-' && seen(at + 1) == '-')) {
                at++;
            }
            Node comment = make(COMMENT, parent, label);
            comment.text = text.substring(start, at);
            tooMuch = tooMuch || comment.text.length() > VALUE_LIMIT;
            return take('-') && take('-') && take('>');
        }

        /** What ENTITIES and characters stand for, up to a < or the other character that ends them. */
        private String readValue(char stop) {
            scratch.setLength(0);
            for (int k = 0; k < text.length() && at < text.length(); k++) {
                char c = seen(at);
                if (c == '<' || c == stop) {
                    break;
                }
                scratch.append(c == '&' ? readEntity() : c);
                if (failed()) {
                    break;
                }
                at++;
            }
            tooMuch = tooMuch || scratch.length() > VALUE_LIMIT;
            return scratch.toString();
        }

        /** What the ENTITY here stands for; the place becomes that of its last character. */
        private char readEntity() {
            if (skip("&lt")) {
                return '<';
            }
            if (skip("&gt")) {
                return '>';
            }
            if (skip("&amp")) {
                return '&';
            }
            if (skip("&quot")) {
                return '"';
            }
            if (skip("&apos")) {
                return '\'';
            }
            failAt(at);
            return END;
        }

        /** Goes to the ; behind this word, if both stand here. */
        private boolean skip(String word) {
            int end = at + word.length();
            if (end >= text.length() || text.charAt(end) != ';') {
                return false;
            }
            if (!text.substring(at, end).equals(word)) {
                return false;
            }
            at = end;
            return true;
        }
    }

    /** Writes the document out, keeping no more of it than its length and the one character asked for. */
    private static final class Scribe {
        private final int wanted;
        int count;
        int seen;

        Scribe(int wanted) {
            this.wanted = wanted;
            this.count = 0;
            this.seen = 0;
        }

        void write(Tree tree) {
            Node open = null;
            for (int place = 0; place < tree.size; place++) {
                Node node = tree.order[place];
                closeUpTo(open, node.parent);
                open = node.parent;
                if (node.kind == ELEMENT) {
                    boolean hasChildren = tree.endOf(node) > place + 1;
                    putStart(node, hasChildren);
                    open = hasChildren ? node : open;
                } else if (node.kind == TEXT) {
                    putValue(node.text, '>', "&gt;");
                } else {
                    putAll("<!--");
                    putAll(node.text);
                    putAll("-->");
                }
            }
            closeUpTo(open, null);
        }

        private void closeUpTo(Node open, Node outer) {
            for (Node node = open; node != null && node != outer; node = node.parent) {
                putAll("</");
                putAll(node.text);
                put('>');
            }
        }

        private void putStart(Node element, boolean hasChildren) {
            put('<');
            putAll(element.text);
            for (int k = 0; k < element.attributes.size(); k++) {
                put(' ');
                putAll(element.attributes.get(k).name());
                putAll("=\"");
                putValue(element.attributes.get(k).value(), '"', "&quot;");
                put('"');
            }
            putAll(hasChildren ? ">" : "/>");
        }

        /** A value's & and < are always written as ENTITIES; the third such character differs. */
        private void putValue(String value, char third, String entity) {
            for (int k = 0; k < value.length(); k++) {
                char c = value.charAt(k);
                if (c == '&') {
                    putAll("&amp;");
                } else if (c == '<') {
                    putAll("&lt;");
                } else if (c == third) {
                    putAll(entity);
                } else {
                    put(c);
                }
            }
        }

        private void putAll(String characters) {
            for (int k = 0; k < characters.length(); k++) {
                put(characters.charAt(k));
            }
        }

        private void put(char c) {
            if (count == wanted) {
                seen = c;
            }
            count++;
        }
    }

    /** A PATH as it was read. */
    private static final class Path {
        final boolean fromDocument;
        final ArrayList<Step> steps;

        Path(boolean fromDocument) {
            this.fromDocument = fromDocument;
            this.steps = new ArrayList<>();
        }
    }

    /** A STEP as it was read; the Walker notes in it which nodes are of its KIND. */
    private static final class Step {
        static final char CHILDREN = 'C';
        static final char NAMED = 'n';

        char axis;
        char sort;
        String name;
        final ArrayList<Predicate> predicates;
        long ofKind;

        Step() {
            axis = CHILDREN;
            sort = NAMED;
            name = "";
            predicates = new ArrayList<>();
            ofKind = 0;
        }

        boolean goesBackwards() {
            return axis == 'A' || axis == 'B' || axis == 'L' || axis == 'R';
        }

        boolean takes(Node node) {
            switch (sort) {
                case '.':
                    return true;
                case '*':
                    return node.kind == ELEMENT;
                case '#':
                    return node.kind == TEXT;
                case '%':
                    return node.kind == COMMENT;
                default:
                    return node.kind == ELEMENT && node.text.equals(name);
            }
        }
    }

    /** A PREDICATE as it was read; the Walker notes in it the nodes for which it holds at any POSITION. */
    private static final class Predicate {
        static final char POSITION = '1';
        static final char LAST = '$';
        static final char ATTRIBUTE = '@';
        static final char LEADS = '/';
        static final char ANY = ' ';
        static final char BEGINS = '~';

        char sort;
        boolean negated;
        int position;
        String name;
        Path path;
        char comparison;
        String string;
        long holds;

        Predicate() {
            sort = LEADS;
            negated = false;
            position = 0;
            name = "";
            path = null;
            comparison = ANY;
            string = "";
            holds = 0;
        }
    }

    /** Reads a PATH; the first error is always the place that has been reached. */
    private static final class PathReader extends TextReader {
        PathReader(String text) {
            super(text);
        }

        Path readWhole() {
            Path path = readPath(0);
            if (!failed()) {
                readEnd();
            }
            return path;
        }

        private Path readPath(int depth) {
            Path path = new Path(seen(at) == '/');
            if (path.fromDocument) {
                at++;
            }
            path.steps.add(readStep(depth));
            for (int k = 0; k < text.length() && !failed() && seen(at) == '/'; k++) {
                at++;
                path.steps.add(readStep(depth));
            }
            return path;
        }

        private Step readStep(int depth) {
            Step step = new Step();
            if (isAxis(seen(at))) {
                step.axis = seen(at);
                at++;
            }
            if (isKindSign(seen(at))) {
                step.sort = seen(at);
                at++;
            } else {
                step.name = readName();
            }
            for (int k = 0; k < text.length() && !failed() && seen(at) == '['; k++) {
                if (depth >= PREDICATE_LIMIT) {
                    failAt(at);
                    return step;
                }
                at++;
                step.predicates.add(readPredicate(depth + 1));
                if (!failed()) {
                    take(']');
                }
            }
            return step;
        }

        private static boolean isAxis(char c) {
            return "DEPABSNLFR".indexOf(c) >= 0;
        }

        private static boolean isKindSign(char c) {
            return "*#%.".indexOf(c) >= 0;
        }

        private Predicate readPredicate(int depth) {
            Predicate predicate = new Predicate();
            for (int k = 0; k < text.length() && seen(at) == '!'; k++) {
                predicate.negated = !predicate.negated;
                at++;
            }
            char c = seen(at);
            if (isDigit(c)) {
                predicate.sort = Predicate.POSITION;
                predicate.position = readPosition();
            } else if (c == '$') {
                predicate.sort = Predicate.LAST;
                at++;
            } else if (c == '@') {
                predicate.sort = Predicate.ATTRIBUTE;
                at++;
                predicate.name = readName();
                readComparison(predicate, "=");
            } else {
                predicate.path = readPath(depth);
                readComparison(predicate, "=~");
            }
            return predicate;
        }

        private static boolean isDigit(char c) {
            return c >= '0' && c <= '9';
        }

        private int readPosition() {
            int position = 0;
            for (int k = 0; k < 2 && isDigit(seen(at)); k++) {
                position = 10 * position + seen(at) - '0';
                at++;
            }
            return position;
        }

        /** A comparison by one of these signs, if one stands here. */
        private void readComparison(Predicate predicate, String signs) {
            if (failed() || signs.indexOf(seen(at)) < 0) {
                return;
            }
            predicate.comparison = seen(at);
            at++;
            if (!take('\'')) {
                return;
            }
            int start = at;
            while (at < text.length() && seen(at) != '\'') {
                at++;
            }
            predicate.string = text.substring(start, at);
            take('\'');
        }
    }

    /**
     * Goes a PATH. Sets of nodes are bits by their places in the document. What a PATH in a
     * PREDICATE answers hangs on the node alone, so it is worked out once for all nodes, from
     * its end backwards: walking it anew from each node would take time without measure.
     */
    private static final class Walker {
        private static final int DOCUMENT = -1;

        private final Tree tree;

        Walker(Tree tree) {
            this.tree = tree;
        }

        static boolean has(long places, int place) {
            return (places >> place & 1L) == 1L;
        }

        long goFrom(int start, Path path) {
            long places = 0;
            for (int k = 0; k < path.steps.size(); k++) {
                Step step = path.steps.get(k);
                if (k == 0) {
                    places = lead(step, path.fromDocument ? DOCUMENT : start);
                } else {
                    places = leadAll(step, places);
                }
            }
            return places;
        }

        /** To be called ahead of goFrom: notes in the PATH's parts what they hold for. */
        void prepare(Path path) {
            for (int k = 0; k < path.steps.size(); k++) {
                Step step = path.steps.get(k);
                for (int place = 0; place < tree.size; place++) {
                    step.ofKind |= step.takes(tree.order[place]) ? 1L << place : 0L;
                }
                for (int j = 0; j < step.predicates.size(); j++) {
                    settle(step.predicates.get(j));
                }
            }
        }

        private void settle(Predicate predicate) {
            if (predicate.sort == Predicate.ATTRIBUTE) {
                predicate.holds = withAttribute(predicate);
            } else if (predicate.path != null) {
                prepare(predicate.path);
                predicate.holds = origins(predicate.path, goals(predicate));
            }
        }

        private long withAttribute(Predicate predicate) {
            long places = 0;
            for (int place = 0; place < tree.size; place++) {
                Attribute attribute = tree.order[place].attributeNamed(predicate.name);
                boolean fits = attribute != null && (predicate.comparison == Predicate.ANY
                        || attribute.value().equals(predicate.string));
                places |= fits ? 1L << place : 0L;
            }
            return places;
        }

        private long goals(Predicate predicate) {
            if (predicate.comparison == Predicate.ANY) {
                return range(0, tree.size);
            }
            long places = 0;
            for (int place = 0; place < tree.size; place++) {
                places |= stringValueFits(tree.order[place], predicate) ? 1L << place : 0L;
            }
            return places;
        }

        private boolean stringValueFits(Node node, Predicate predicate) {
            String due = predicate.string;
            int matched = 0;
            int end = tree.endOf(node);
            for (int place = node.place; place < end; place++) {
                Node part = tree.order[place];
                boolean counts = part.kind == TEXT || node.kind == COMMENT;
                for (int k = 0; counts && k < part.text.length(); k++) {
                    if (matched == due.length()) {
                        return predicate.comparison == Predicate.BEGINS;
                    }
                    if (part.text.charAt(k) != due.charAt(matched)) {
                        return false;
                    }
                    matched++;
                }
            }
            return matched == due.length();
        }

        /** The nodes from which the PATH leads to one of these. */
        private long origins(Path path, long goals) {
            long places = goals;
            for (int k = path.steps.size() - 1; k >= 0; k--) {
                Step step = path.steps.get(k);
                if (k == 0 && path.fromDocument) {
                    places = (lead(step, DOCUMENT) & places) != 0 ? range(0, tree.size) : 0L;
                } else {
                    places = whence(step, places);
                }
            }
            return places;
        }

        private long whence(Step step, long goals) {
            long places = 0;
            for (int place = 0; place < tree.size; place++) {
                places |= (lead(step, place) & goals) != 0 ? 1L << place : 0L;
            }
            return places;
        }

        private long leadAll(Step step, long from) {
            long places = 0;
            for (int place = 0; place < tree.size; place++) {
                places |= has(from, place) ? lead(step, place) : 0L;
            }
            return places;
        }

        private long lead(Step step, int place) {
            long all = place == DOCUMENT ? documentAxis(step.axis) : axis(step.axis, tree.order[place]);
            long places = all & step.ofKind;
            for (int k = 0; k < step.predicates.size(); k++) {
                places = sift(step.predicates.get(k), places, step.goesBackwards());
            }
            return places;
        }

        private long sift(Predicate predicate, long places, boolean backwards) {
            long holds = predicate.holds;
            if (predicate.sort == Predicate.POSITION) {
                holds = atPosition(predicate.position, places, backwards);
            } else if (predicate.sort == Predicate.LAST) {
                holds = atPosition(Long.bitCount(places), places, backwards);
            }
            return places & (predicate.negated ? ~holds : holds);
        }

        private long atPosition(int position, long places, boolean backwards) {
            int reached = 0;
            for (int k = 0; k < tree.size; k++) {
                int place = backwards ? tree.size - 1 - k : k;
                long here = places & 1L << place;
                reached += here == 0 ? 0 : 1;
                if (here != 0 && reached == position) {
                    return here;
                }
            }
            return 0L;
        }

        private long documentAxis(char axis) {
            switch (axis) {
                case Step.CHILDREN:
                    return 1L;
                case 'D':
                case 'E':
                    return range(0, tree.size);
                default:
                    return 0L;
            }
        }

        private long axis(char axis, Node node) {
            switch (axis) {
                case 'D':
                    return range(node.place + 1, tree.endOf(node));
                case 'E':
                    return range(node.place, tree.endOf(node));
                case 'P':
                    return node.parent == null ? 0L : 1L << node.parent.place;
                case 'A':
                    return ancestors(node);
                case 'B':
                    return ancestors(node) | 1L << node.place;
                case 'S':
                    return 1L << node.place;
                case 'N':
                    return children(node.parent) & range(node.place + 1, tree.size);
                case 'L':
                    return children(node.parent) & range(0, node.place);
                case 'F':
                    return range(tree.endOf(node), tree.size);
                case 'R':
                    return range(0, node.place) & ~ancestors(node);
                default:
                    return children(node);
            }
        }

        private long ancestors(Node node) {
            long places = 0;
            for (Node outer = node.parent; outer != null; outer = outer.parent) {
                places |= 1L << outer.place;
            }
            return places;
        }

        private long children(Node parent) {
            long places = 0;
            for (int place = 0; parent != null && place < tree.size; place++) {
                places |= tree.order[place].parent == parent ? 1L << place : 0L;
            }
            return places;
        }

        private static long range(int from, int to) {
            return (1L << to) - (1L << from);
        }
    }
}
