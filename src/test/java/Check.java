import java.util.HashSet;
import java.util.LinkedHashSet;
import java.util.Set;

/** What the tests have in common: compare, count what is wrong, end with exit code 1 if something is. */
final class Check {
    static final Class<?> STATE = IllegalStateException.class;
    static final Class<?> ARGUMENT = IllegalArgumentException.class;
    static final Class<?> INDEX = IndexOutOfBoundsException.class;
    static final Class<?> MISSING = java.util.NoSuchElementException.class;
    static final Class<?> ARITHMETIC = ArithmeticException.class;

    private static final Set<String> NAMES = new LinkedHashSet<>();
    private static final Set<String> REFUSALS = new HashSet<>();
    private static int done = 0;
    private static int wrong = 0;
    private static String test = "";

    interface Call {
        Object answer();
    }

    private Check() {
    }

    /** Runs a test under a name of its own ("promise 2 feed: 200 bytes fit"), with which its faults are told. */
    static void test(String name, Runnable body) {
        test = name;
        same("the name is new", NAMES.add(name), true);
        int before = done;
        try {
            body.run();
        } catch (RuntimeException e) {
            same("the test ends", "throws " + e, "it ends");
        }
        same("something was checked", done > before, true);
        test = "";
    }

    static void printNames() {
        NAMES.forEach(System.out::println);
    }

    /** Whether there is a test of this subject ("promise 2 feed"). */
    static boolean hasTest(String subject) {
        return NAMES.stream().anyMatch(name -> isOf(name, subject));
    }

    /** Whether a test of this subject has seen a call that was refused with this exception. */
    static boolean hasRefused(String subject, String exception) {
        return REFUSALS.stream().anyMatch(refusal -> isOf(refusal, subject) && refusal.endsWith(" " + exception));
    }

    private static boolean isOf(String name, String subject) {
        return name.startsWith(subject + ":") || name.startsWith(subject + " ");
    }

    static void same(String what, Object got, Object due) {
        done++;
        if (!due.equals(got)) {
            wrong++;
            System.out.println((test.isEmpty() ? "" : test + " | ") + what + ": got " + got + ", due is " + due);
        }
    }

    static void refuses(String what, Class<?> exception, Call call) {
        REFUSALS.add(test.replaceAll(":.*", "") + " " + exception.getSimpleName());
        same(what, outcome(call), "throws " + exception.getSimpleName());
    }

    static Object outcome(Call call) {
        try {
            return call.answer();
        } catch (RuntimeException e) {
            return "throws " + e.getClass().getSimpleName();
        }
    }

    /** Puts a text into the buffer, which must be empty. */
    static void put(FamilyStore store, String text) {
        put(store, text.getBytes(java.nio.charset.StandardCharsets.ISO_8859_1));
    }

    static void put(FamilyStore store, byte[] bytes) {
        for (int at = 0; at < bytes.length; at += 20) {
            int[] fed = new int[5];
            for (int i = 0; i < 20; i++) {
                int sign = at + i < bytes.length ? bytes[at + i] & 255 : ' ';
                fed[i / 4] = fed[i / 4] << 8 | sign;
            }
            store.feed(fed[0], fed[1], fed[2], fed[3], fed[4]);
        }
        store.trim(bytes.length);
    }

    static int eval(FamilyStore store, String text) {
        put(store, text);
        return store.evaluate();
    }

    /** A new store with the values of these texts as its families. */
    static FamilyStore with(String... texts) {
        FamilyStore store = new FamilyStore();
        for (String text : texts) {
            eval(store, text);
        }
        return store;
    }

    static String written(FamilyStore store, int f) {
        int length = store.write(f);
        StringBuilder out = new StringBuilder();
        for (int i = 0; i < length; i++) {
            out.append((char) store.outputByte(i));
        }
        return out.toString();
    }

    /** Evaluates a text in a new store, and writes what comes out. */
    static String result(String text) {
        FamilyStore store = new FamilyStore();
        return written(store, eval(store, text));
    }

    static void end(String name) {
        System.out.println(name + ": " + (NAMES.isEmpty() ? "" : NAMES.size() + " tests, ")
                + done + " checks, " + wrong + " wrong");
        if (wrong != 0) {
            System.exit(1);
        }
    }
}
