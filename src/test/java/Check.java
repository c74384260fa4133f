/** Counts the answers that are not the ones due, and types texts into the store of a test. */
final class Check {
    private int wrong = 0;
    private int looked = 0;
    private String part = "";
    MarkupStore store = new MarkupStore();

    /** Begins a part of the test, on a new store. */
    void begin(String name) {
        part = name;
        store = new MarkupStore();
    }

    /** Begins a part of the test, on a new store that has loaded this document. */
    void beginWith(String name, String document) {
        begin(name);
        type(document);
        if (store.load() < 0) {
            due("load " + document, -1, 0);
        }
    }

    void due(String call, long got, long want) {
        looked++;
        if (got != want) {
            wrong++;
            System.out.println(part + ": " + call + " answered " + got + ", due is " + want);
        }
    }

    void due(String call, boolean got, boolean want) {
        due(call, got ? 1 : 0, want ? 1 : 0);
    }

    void due(String call, String got, String want) {
        looked++;
        if (!got.equals(want)) {
            wrong++;
            System.out.println(part + ": " + call + " answered " + got + ", due is " + want);
        }
    }

    void type(String text) {
        for (int k = 0; k < text.length(); k++) {
            store.type(text.charAt(k));
        }
    }

    void dueLoad(String document, int want) {
        type(document);
        due("load " + document, store.load(), want);
    }

    void dueInsert(String text, int i, int where, int want) {
        type(text);
        due("insert(" + i + ", " + where + ") of " + text, store.insert(i, where), want);
    }

    void dueReplace(String text, int i, boolean want) {
        type(text);
        due("replace(" + i + ") by " + text, store.replace(i), want);
    }

    /** The path's answer and the numbers of its result, which must be as many. */
    void dueQuery(String path, int i, int... want) {
        type(path);
        due("query(" + i + ") of " + path, store.query(i), want.length);
        for (int k = 0; k < want.length; k++) {
            due("query(" + i + ") of " + path + ", result(" + k + ")", store.result(k), want[k]);
        }
        due("query(" + i + ") of " + path + ", result behind the last", store.result(want.length), -1000);
    }

    void dueQueryAnswer(String path, int i, int want) {
        type(path);
        due("query(" + i + ") of " + path, store.query(i), want);
    }

    void dueLabel(int i, int... want) {
        due("node(" + i + ", 5)", store.node(i, 5), want.length);
        for (int k = 0; k < want.length; k++) {
            due("label(" + i + ", " + k + ")", store.label(i, k), want[k]);
        }
    }

    void dueWords(int i, String want) {
        due("letters of " + i, words(i), want);
    }

    void dueDocument(String want) {
        due("document", document(), want);
    }

    String words(int i) {
        StringBuilder all = new StringBuilder();
        for (int k = 0; k < store.node(i, 4); k++) {
            all.append((char) store.letter(i, k));
        }
        return all.toString();
    }

    String document() {
        StringBuilder all = new StringBuilder();
        for (int k = 0; k < store.length(); k++) {
            all.append((char) store.written(k));
        }
        return all.toString();
    }

    /** All that can be asked without changing anything, but for the buffer. */
    String state() {
        StringBuilder all = new StringBuilder(document());
        all.append(" root ").append(store.root()).append(" nodes ").append(store.nodes());
        for (int k = 0; store.result(k) != -1000; k++) {
            all.append(" result ").append(store.result(k));
        }
        for (int i = 0; i < 200; i++) {
            all.append(store.kind(i) == -1000 ? "" : " node " + i + " " + nodeState(i));
        }
        return all.toString();
    }

    private String nodeState(int i) {
        StringBuilder all = new StringBuilder(words(i));
        for (int what = 0; what < 7; what++) {
            all.append(' ').append(store.node(i, what));
        }
        for (int k = 0; k < store.node(i, 5); k++) {
            all.append('.').append(store.label(i, k));
        }
        return all.toString();
    }

    /** The load of an empty buffer has its first error at place 0, and changes nothing. */
    void dueEmptyBuffer(String behind) {
        due("load of an empty buffer, behind " + behind, store.load(), -1);
    }

    /** Ends the test program: with exit code 1 when an answer was wrong. */
    void end(String test) {
        System.out.println(test + ": " + looked + " answers looked at, " + wrong + " wrong");
        if (wrong > 0) {
            System.exit(1);
        }
    }
}
