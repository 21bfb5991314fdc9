/** What the tests have in common: compare, count what is wrong, end with exit code 1 if something is. */
final class Check {
    private static int done = 0;
    private static int wrong = 0;

    interface Call {
        Object answer();
    }

    private Check() {
    }

    static void same(String what, Object got, Object due) {
        done++;
        if (!due.equals(got)) {
            wrong++;
            System.out.println(what + ": got " + got + ", due is " + due);
        }
    }

    static void refuses(String what, Class<?> exception, Call call) {
        same(what, outcome(call), "throws " + exception.getSimpleName());
    }

    static Object outcome(Call call) {
        try {
            return call.answer();
        } catch (RuntimeException e) {
            return "throws " + e.getClass().getSimpleName();
        }
    }

    /** Puts a text into the buffer, which must be empty. */
    static void put(FamilyStore store, String text) {
        put(store, text.getBytes(java.nio.charset.StandardCharsets.ISO_8859_1));
    }

    static void put(FamilyStore store, byte[] bytes) {
        for (int at = 0; at < bytes.length; at += 20) {
            int[] fed = new int[5];
            for (int i = 0; i < 20; i++) {
                int sign = at + i < bytes.length ? bytes[at + i] & 255 : ' ';
                fed[i / 4] = fed[i / 4] << 8 | sign;
            }
            store.feed(fed[0], fed[1], fed[2], fed[3], fed[4]);
        }
        store.trim(bytes.length);
    }

    static int eval(FamilyStore store, String text) {
        put(store, text);
        return store.evaluate();
    }

    static String written(FamilyStore store, int f) {
        int length = store.write(f);
        StringBuilder out = new StringBuilder();
        for (int i = 0; i < length; i++) {
            out.append((char) store.outputByte(i));
        }
        return out.toString();
    }

    /** Evaluates a text in a new store, and writes what comes out. */
    static String result(String text) {
        FamilyStore store = new FamilyStore();
        return written(store, eval(store, text));
    }

    static void end(String name) {
        System.out.println(name + ": " + done + " checks, " + wrong + " wrong");
        if (wrong != 0) {
            System.exit(1);
        }
    }
}
