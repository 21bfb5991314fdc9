/**
 * A store of which everything is in use (families, costs, text, error position, output, list), so that a call
 * that is refused can be seen to change nothing.
 */
final class Scene {
    /** The families: 0 is 1 + ab + c, 1 is empty, 2 was released, 3 is a + b, and all others are a. */
    static final int SETS = 0;
    static final int EMPTY = 1;
    static final int RELEASED = 2;
    static final int ERROR_POSITION = 4;
    static final String TEXT = "abl+#0";
    private static final String OUTPUT = "1+ab+c";
    private static final int LISTED = 2;

    final FamilyStore store = new FamilyStore();
    private final String before;

    private Scene(int families) {
        Check.eval(store, "ab + c + 1");
        Check.eval(store, "0");
        Check.eval(store, "a");
        Check.eval(store, "a + b");
        store.release(RELEASED);
        while (store.createdCount() < families) {
            store.single(1);
        }
        store.setCost(0, 5);
        store.setCost(11, -7);
        store.write(SETS);
        store.enumerate(SETS, 100, LISTED);
        Check.put(store, "a + $");
        Check.outcome(() -> store.evaluate());
        Check.put(store, TEXT);
        before = seen();
    }

    static Scene small() {
        return new Scene(4);
    }

    /** A store in which 200 families have been created. */
    static Scene full() {
        return new Scene(200);
    }

    void refuses(String what, Class<?> exception, Check.Call call) {
        Check.refuses(what, exception, call);
        changedNothing(what);
    }

    void changedNothing(String what) {
        Check.same(what + " changes nothing", seen(), before);
    }

    /** What there is besides the text and its error; the output and the list with the byte and the set behind. */
    String seenBesideText() {
        StringBuilder all = new StringBuilder();
        all.append(store.digest()).append(' ').append(store.createdCount()).append(' ').append(store.nodeCount());
        for (int i = 0; i <= OUTPUT.length(); i++) {
            int at = i;
            all.append(' ').append(Check.outcome(() -> store.outputByte(at)));
        }
        for (int i = 0; i <= LISTED; i++) {
            int at = i;
            all.append(' ').append(Check.outcome(() -> store.enumerated(at)));
        }
        return all.toString();
    }

    private String seen() {
        return seenBesideText() + " error at " + store.errorPosition()
                + " text " + Check.outcome(() -> store.trim(TEXT.length() + 1))
                + " " + Check.outcome(() -> store.trim(TEXT.length()));
    }
}
