import java.lang.management.ManagementFactory;
import java.util.Random;

/**
 * What a run of 512 calls makes stays far below the room that all calls of a run have: 7.3 million fields
 * and elements, of which none is smaller than a byte and most have four or eight.
 */
final class RoomTest {
    private static final long MOST_BYTES = 20_000_000;
    private static final com.sun.management.ThreadMXBean THREADS =
            (com.sun.management.ThreadMXBean) ManagementFactory.getThreadMXBean();

    public static void main(String[] args) {
        new FamilyStore().digest();
        measure("a new store", 100_000, () -> new FamilyStore().createdCount());
        measure("families with many nodes", MOST_BYTES, RoomTest::manyNodes);
        measure("long expressions", MOST_BYTES, RoomTest::longExpressions);
        measure("questions", MOST_BYTES, RoomTest::questions);
        Check.end("RoomTest");
    }

    private static void measure(String what, long most, Check.Call run) {
        long before = THREADS.getThreadAllocatedBytes(Thread.currentThread().getId());
        Object answer = run.answer();
        long used = THREADS.getThreadAllocatedBytes(Thread.currentThread().getId()) - before;
        System.out.println(what + ": " + used + " bytes, answer " + answer);
        Check.same(what + " has room", used <= most, true);
    }

    private static int manyNodes() {
        Random random = new Random(1);
        FamilyStore store = new FamilyStore();
        store.subsetsOf(4095, -1);
        for (int element = 0; element < 12; element++) {
            store.setCost(element, random.nextInt(2001) - 1000);
        }
        for (int i = 1; i < 200; i++) {
            store.setCost(random.nextInt(12), random.nextInt(2001) - 1000);
            int low = random.nextInt(1001) - 500;
            store.withCost(0, low, low + random.nextInt(1000));
        }
        return store.nodeCount();
    }

    private static int longExpressions() {
        FamilyStore store = new FamilyStore();
        store.subsetsOf(4095, -1);
        String text = "#0" + "*#0".repeat(66);
        for (int i = 0; i < 40; i++) {
            for (int at = 0; at < 200; at += 20) {
                store.feed(word(text, at), word(text, at + 4), word(text, at + 8), word(text, at + 12),
                        word(text, at + 16));
            }
            store.evaluate();
        }
        return store.count(40);
    }

    private static int word(String text, int at) {
        return text.charAt(at) << 24 | text.charAt(at + 1) << 16 | text.charAt(at + 2) << 8 | text.charAt(at + 3);
    }

    private static int questions() {
        FamilyStore store = new FamilyStore();
        store.subsetsOf(4095, -1);
        for (int i = 0; i < 500; i += 5) {
            store.enumerate(0, 0, 300);
            store.setAt(0, 5);
            store.nodeCount();
            store.meanCost(0);
            store.isPartOf(0, 0);
        }
        return store.count(0);
    }
}
