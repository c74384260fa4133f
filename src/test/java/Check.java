/** Counts the answers that are not the ones due, and types texts into the store of a test. */
final class Check {
    private int wrong = 0;
    private int looked = 0;
    private String part = "";
    MarkupStore store = new MarkupStore();

    /** Begins a part of the test, on a new store. */
    void begin(String name) {
        part = name;
        store = new MarkupStore();
    }

    /** Begins a part of the test, on a new store that has loaded this document. */
    void beginWith(String name, String document) {
        begin(name);
        type(document);
        if (store.load() < 0) {
            due("load " + document, -1, 0);
        }
    }

    void due(String call, long got, long want) {
        looked++;
        if (got != want) {
            wrong++;
            System.out.println(part + ": " + call + " answered " + got + ", due is " + want);
        }
    }

    void due(String call, boolean got, boolean want) {
        due(call, got ? 1 : 0, want ? 1 : 0);
    }

    void due(String call, String got, String want) {
        looked++;
        if (!got.equals(want)) {
            wrong++;
            System.out.println(part + ": " + call + " answered " + got + ", due is " + want);
        }
    }

    void type(String text) {
        for (int k = 0; k < text.length(); k++) {
            store.type(text.charAt(k));
        }
    }

    void dueLoad(String document, int want) {
        type(document);
        due("load " + document, store.load(), want);
    }

    void dueInsert(String text, int i, int where, int want) {
        type(text);
        due("insert(" + i + ", " + where + ") of " + text, store.insert(i, where), want);
    }

    void dueReplace(String text, int i, boolean want) {
        type(text);
        due("replace(" + i + ") by " + text, store.replace(i), want);
    }

    /** The path's answer and the numbers of its result, which must be as many. */
    void dueQuery(String path, int i, int... want) {
        type(path);
        due("query(" + i + ") of " + path, store.query(i), want.length);
        for (int k = 0; k < want.length; k++) {
            due("query(" + i + ") of " + path + ", result(" + k + ")", store.result(k), want[k]);
        }
        due("query(" + i + ") of " + path + ", result behind the last", store.result(want.length), -1000);
    }

    void dueQueryAnswer(String path, int i, int want) {
        type(path);
        due("query(" + i + ") of " + path, store.query(i), want);
    }

    void dueLabel(int i, int... want) {
        due("node(" + i + ", 5)", store.node(i, 5), want.length);
        for (int k = 0; k < want.length; k++) {
            due("label(" + i + ", " + k + ")", store.label(i, k), want[k]);
        }
    }

    void dueWords(int i, String want) {
        due("letters of " + i, words(i), want);
    }

    void dueDocument(String want) {
        due("document", document(), want);
    }

    String words(int i) {
        StringBuilder all = new StringBuilder();
        for (int k = 0; k < store.node(i, 4); k++) {
            all.append((char) store.letter(i, k));
        }
        return all.toString();
    }

    String document() {
        StringBuilder all = new StringBuilder();
        for (int k = 0; k < store.length(); k++) {
            all.append((char) store.written(k));
        }
        return all.toString();
    }

    /** Ends the test program: with exit code 1 when an answer was wrong. */
    void end(String test) {
        System.out.println(test + ": " + looked + " answers looked at, " + wrong + " wrong");
        if (wrong > 0) {
            System.exit(1);
        }
    }
}
