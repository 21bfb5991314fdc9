/** The edges of promises 8 to 13: making families from masks, releasing them, counting their nodes. */
final class FamilyEdges {
    private static final int[] NO_MASKS = {-1, 4096, Integer.MIN_VALUE, Integer.MAX_VALUE};
    private static final int[] NO_SIZES = {-2, 13, Integer.MIN_VALUE, Integer.MAX_VALUE};

    private FamilyEdges() {
    }

    static void run() {
        single();
        subsetsOf();
        refusedMasks();
        release();
        createdCount();
        nodeCount();
        nodesOf();
    }

    private static void single() {
        for (int element = 0; element < 12; element++) {
            int mask = 1 << element;
            String letter = String.valueOf((char) ('a' + element));
            Check.test("promise 8 single: the mask " + mask + " is the set " + letter, () -> {
                FamilyStore store = new FamilyStore();
                Check.same("number", store.single(mask), 0);
                Check.same("set", Check.written(store, 0), letter);
            });
        }
        Check.test("promise 8 single: the mask 0 is the empty set", () -> {
            FamilyStore store = new FamilyStore();
            Check.same("number", store.single(0), 0);
            Check.same("set", Check.written(store, 0), "1");
            Check.same("one set", store.count(0), 1);
        });
        Check.test("promise 8 single: the mask 4095 is the set of all elements", () -> {
            FamilyStore store = new FamilyStore();
            Check.same("number", store.single(4095), 0);
            Check.same("set", Check.written(store, 0), "abcdefghijkl");
        });
        Refusals.full("promise 8 single", store -> store.single(1));
    }

    private static void isFamily(String name, int mask, int size, String due) {
        Check.test("promise 9 subsetsOf: " + name, () -> {
            FamilyStore store = new FamilyStore();
            Check.same("number", store.subsetsOf(mask, size), 0);
            Check.same("sets", Check.written(store, 0), due);
        });
    }

    private static void subsetsOf() {
        isFamily("size -1 is any size", 2052, -1, "1+c+l+cl");
        isFamily("size 0 leaves the empty set", 2052, 0, "1");
        isFamily("as many elements as the set has", 2052, 2, "cl");
        isFamily("more elements than the set has, which leaves no set", 2052, 3, "0");
        isFamily("size 12 of fewer elements leaves no set", 2047, 12, "0");
        isFamily("size 12 of all elements", 4095, 12, "abcdefghijkl");
        isFamily("mask 0, any size", 0, -1, "1");
        isFamily("mask 0, size 0", 0, 0, "1");
        isFamily("mask 0, size 1", 0, 1, "0");
        isFamily("mask 4095, size 1", 4095, 1, "a+b+c+d+e+f+g+h+i+j+k+l");
        Check.test("promise 9 subsetsOf: mask 4095, any size, has all sets", () -> {
            FamilyStore store = new FamilyStore();
            store.subsetsOf(4095, -1);
            Check.same("sets", store.count(0), 4096);
            Check.same("last", store.contains(0, 4095), true);
        });
        Check.test("promise 9 subsetsOf: mask 4095, each size from 0 to 12", () -> {
            int[] due = {1, 12, 66, 220, 495, 792, 924, 792, 495, 220, 66, 12, 1};
            FamilyStore store = new FamilyStore();
            for (int size = 0; size <= 12; size++) {
                Check.same("size " + size, store.count(store.subsetsOf(4095, size)), due[size]);
            }
        });
        Refusals.full("promise 9 subsetsOf", store -> store.subsetsOf(7, 1));
    }

    private static void refusedMasks() {
        for (int mask : NO_MASKS) {
            refuses("promise 8 single: the mask " + mask, store -> store.single(mask));
            refuses("promise 9 subsetsOf: the mask " + mask, store -> store.subsetsOf(mask, 1));
        }
        for (int size : NO_SIZES) {
            refuses("promise 9 subsetsOf: the size " + size, store -> store.subsetsOf(7, size));
        }
        refuses("promise 9 subsetsOf: no mask and no size", store -> store.subsetsOf(4096, 13));
    }

    private static void refuses(String name, Refusals.Maker call) {
        Check.test(name, () -> {
            Scene scene = Scene.small();
            scene.refuses("it", Check.ARGUMENT, () -> call.answer(scene.store));
        });
        Check.test(name + " is told before 200 families", () -> {
            Scene full = Scene.full();
            full.refuses("it", Check.ARGUMENT, () -> call.answer(full.store));
        });
    }

    private static void release() {
        Check.test("promise 10 release: returns how many are left, 0 at last", () -> {
            FamilyStore store = Check.with("a", "b", "0");
            Check.same("first", store.release(1), 2);
            Check.same("second", store.release(0), 1);
            Check.same("last", store.release(2), 0);
        });
        Check.test("promise 10 release: released families do not count among those that are left", () -> {
            FamilyStore store = Check.with("a", "b");
            store.release(0);
            store.single(1);
            Check.same("left", store.release(1), 1);
        });
        Check.test("promise 10 release: a second time", () -> {
            FamilyStore store = Check.with("a", "b");
            store.release(0);
            Check.refuses("again", Check.MISSING, () -> store.release(0));
            Check.same("the other is left", store.release(1), 0);
        });
        Check.test("promise 10 release: a refused call releases nothing", () -> {
            FamilyStore store = Check.with("a", "b");
            Check.refuses("2", Check.INDEX, () -> store.release(2));
            Check.same("left", store.release(0), 1);
        });
        Check.test("promise 10 release: each family of a full store", () -> {
            FamilyStore store = new FamilyStore();
            for (int f = 0; f < 200; f++) {
                store.single(f);
            }
            for (int f = 0; f < 200; f++) {
                Check.same("left after " + f, store.release(f), 199 - f);
            }
            Check.same("nodes", store.nodeCount(), 0);
        });
        Check.test("promise 10 release: an equal family stays", () -> {
            FamilyStore store = Check.with("ab", "ab");
            store.release(0);
            Check.same("sets", Check.written(store, 1), "ab");
        });
        Check.test("promise 10 release: families made from the released one stay", () -> {
            FamilyStore store = Check.with("ab + c", "c");
            store.union(0, 1);
            store.release(0);
            store.release(1);
            Check.same("sets", Check.written(store, 2), "ab+c");
        });
    }

    private static void createdCount() {
        Check.test("promise 11 createdCount: 0 in a new store", () ->
            Check.same("created", new FamilyStore().createdCount(), 0));
        Check.test("promise 11 createdCount: released families count", () -> {
            FamilyStore store = Check.with("a", "b");
            store.release(0);
            store.release(1);
            Check.same("created", store.createdCount(), 2);
        });
        Check.test("promise 11 createdCount: refused calls do not count", () -> {
            FamilyStore store = Check.with("a");
            Check.refuses("single", Check.ARGUMENT, () -> store.single(4096));
            Check.put(store, "a / 0");
            Check.refuses("evaluate", Check.ARITHMETIC, () -> store.evaluate());
            Check.refuses("union", Check.INDEX, () -> store.union(0, 1));
            Check.same("created", store.createdCount(), 1);
        });
        Check.test("promise 11 createdCount: 200 at most", () -> {
            FamilyStore full = Scene.full().store;
            Check.same("created", full.createdCount(), 200);
            Check.refuses("single", Check.STATE, () -> full.single(1));
            Check.same("still", full.createdCount(), 200);
            full.release(0);
            Check.same("after a release", full.createdCount(), 200);
        });
    }

    private static void nodeCount() {
        Check.test("promise 12 nodeCount: 0 in a new store", () ->
            Check.same("nodes", new FamilyStore().nodeCount(), 0));
        Check.test("promise 12 nodeCount: the empty family and the empty set alone have none", () ->
            Check.same("nodes", Check.with("0", "1").nodeCount(), 0));
        Check.test("promise 12 nodeCount: equal families count once", () ->
            Check.same("nodes", Check.with("ab", "ab").nodeCount(), 2));
        Check.test("promise 12 nodeCount: a family that is a part of another's diagram counts once", () ->
            Check.same("nodes", Check.with("ab + c", "b", "c").nodeCount(), 3));
        Check.test("promise 12 nodeCount: different nodes count each", () ->
            Check.same("nodes", Check.with("a", "b", "a + b").nodeCount(), 3));
        Check.test("promise 12 nodeCount: the nodes of a released family are gone", () -> {
            FamilyStore store = Check.with("ab + c");
            store.release(0);
            Check.same("nodes", store.nodeCount(), 0);
        });
        Check.test("promise 12 nodeCount: nodes of a released family that another has stay", () -> {
            FamilyStore store = Check.with("ab + c", "b", "ab + c");
            store.release(0);
            Check.same("all", store.nodeCount(), 3);
            store.release(2);
            Check.same("b", store.nodeCount(), 1);
        });
        Check.test("promise 12 nodeCount: nodes that come again after a release", () -> {
            FamilyStore store = Check.with("ab + c");
            store.release(0);
            Check.eval(store, "ab + c");
            Check.same("nodes", store.nodeCount(), 3);
        });
        Check.test("promise 12 nodeCount: what an expression reaches on its way has no nodes", () ->
            Check.same("nodes", Check.with("(abc + def) & a").nodeCount(), 0));
        Check.test("promise 12 nodeCount: the families of all sizes share nodes", () -> {
            // A node for each first element i and each size from 1 to 12 - i of sets of the elements from i on.
            FamilyStore store = new FamilyStore();
            for (int size = 0; size <= 12; size++) {
                store.subsetsOf(4095, size);
                Check.same("nodes of size " + size, store.nodesOf(size), size * (13 - size));
            }
            Check.same("together", store.nodeCount(), 78);
            for (int size = 0; size < 12; size++) {
                store.release(size);
            }
            Check.same("of the last one", store.nodeCount(), 12);
        });
        Check.test("promise 12 nodeCount: 200 families of one element each share twelve nodes", () -> {
            FamilyStore store = new FamilyStore();
            for (int f = 0; f < 200; f++) {
                store.single(1 << f % 12);
            }
            Check.same("nodes", store.nodeCount(), 12);
        });
    }

    private static void hasNodes(String name, String text, int due) {
        Check.test("promise 13 nodesOf: " + name + " (" + text + ")", () -> {
            FamilyStore store = Check.with("a + b + c", text);
            Check.same("nodes", store.nodesOf(1), due);
            store.release(0);
            Check.same("nodes without the other family", store.nodesOf(1), due);
        });
    }

    private static void nodesOf() {
        hasNodes("the empty family has none", "0", 0);
        hasNodes("the empty set alone is none", "1", 0);
        hasNodes("one element", "l", 1);
        hasNodes("the empty set beside another set", "1 + a", 1);
        hasNodes("all elements", "abcdefghijkl", 12);
        hasNodes("the top is the smallest element", "ab + b + c", 4);
        hasNodes("low and high part can be the same node", "ab + b", 2);
        hasNodes("the same node counts once wherever it is reached", "ac + bc + c", 3);
        hasNodes("all sets of three elements", "sub(abc)", 3);
        Check.test("promise 13 nodesOf: all sets", () -> {
            FamilyStore store = new FamilyStore();
            store.subsetsOf(4095, -1);
            Check.same("nodes", store.nodesOf(0), 12);
        });
    }
}
