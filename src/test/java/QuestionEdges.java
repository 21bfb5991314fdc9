/** The edges of promises 29 to 36: counting, comparing, and sets by their index. */
final class QuestionEdges {
    private static final int[] NO_MASKS = {-1, 4096, -4096, 1 << 16, Integer.MIN_VALUE, Integer.MAX_VALUE};

    private QuestionEdges() {
    }

    static void run() {
        count();
        countOfSize();
        countWith();
        contains();
        areEqual();
        isPartOf();
        setAt();
        indexOf();
    }

    /** Family 0 is 1 + a + ab + bcl + l, 1 is empty, 2 is 1, 3 has all sets, 4 is a + l, 5 is g. */
    private static FamilyStore store() {
        FamilyStore store = Check.with("1 + a + ab + bcl + l", "0", "1");
        store.subsetsOf(4095, -1);
        Check.eval(store, "a + l");
        store.single(64);
        return store;
    }

    private static void asks(String name, Refusals.Maker call, Object due) {
        Check.test(name, () -> {
            FamilyStore store = store();
            long before = store.digest();
            Check.same("answer", Check.outcome(() -> call.answer(store)), due);
            Check.same("nothing changes", store.digest(), before);
        });
    }

    private static void count() {
        asks("promise 29 count: the empty family has none", store -> store.count(1), 0);
        asks("promise 29 count: the empty set is a set", store -> store.count(2), 1);
        asks("promise 29 count: the empty set among others", store -> store.count(0), 5);
        asks("promise 29 count: all sets", store -> store.count(3), 4096);
    }

    private static void countOfSize() {
        String method = "promise 30 countOfSize: ";
        asks(method + "size 0 is the empty set", store -> store.countOfSize(0, 0), 1);
        asks(method + "size 0 without the empty set", store -> store.countOfSize(4, 0), 0);
        asks(method + "size 1", store -> store.countOfSize(0, 1), 2);
        asks(method + "the greatest size that there is", store -> store.countOfSize(0, 3), 1);
        asks(method + "one element more", store -> store.countOfSize(0, 4), 0);
        asks(method + "size 12", store -> store.countOfSize(3, 12), 1);
        asks(method + "size 13", store -> store.countOfSize(3, 13), 0);
        asks(method + "size -1 is not any size", store -> store.countOfSize(3, -1), 0);
        asks(method + "size 32", store -> store.countOfSize(3, 32), 0);
        asks(method + "the size of the least int", store -> store.countOfSize(3, Integer.MIN_VALUE), 0);
        asks(method + "the size of the greatest int", store -> store.countOfSize(3, Integer.MAX_VALUE), 0);
        asks(method + "the empty family", store -> store.countOfSize(1, 0), 0);
        asks(method + "six of twelve", store -> store.countOfSize(3, 6), 924);
    }

    private static void countWith() {
        String method = "promise 31 countWith: ";
        asks(method + "the first element", store -> store.countWith(0, 0), 2);
        asks(method + "the last element", store -> store.countWith(0, 11), 2);
        asks(method + "the first and the only set has it", store -> store.countWith(5, 6), 1);
        asks(method + "an element of no set", store -> store.countWith(0, 3), 0);
        asks(method + "the empty family", store -> store.countWith(1, 0), 0);
        asks(method + "the empty set alone", store -> store.countWith(2, 0), 0);
        asks(method + "all sets, the first element", store -> store.countWith(3, 0), 2048);
        asks(method + "all sets, the last element", store -> store.countWith(3, 11), 2048);
    }

    private static void contains() {
        String method = "promise 32 contains: ";
        asks(method + "the mask 0 is the empty set", store -> store.contains(0, 0), true);
        asks(method + "the empty set is not there", store -> store.contains(4, 0), false);
        asks(method + "the greatest set that is there", store -> store.contains(0, 2054), true);
        asks(method + "a set that is not there", store -> store.contains(0, 2), false);
        asks(method + "the empty family", store -> store.contains(1, 0), false);
        asks(method + "the mask 4095", store -> store.contains(3, 4095), true);
        for (int mask : NO_MASKS) {
            asks(method + "the int " + mask + " is no mask", store -> store.contains(3, mask), false);
        }
        asks(method + "a mask and 4096", store -> store.contains(3, 4096 + 3), false);
    }

    private static void pair(String method, Refusals.OfTwo call, String name, String f, String g, boolean due) {
        Check.test(method + ": " + name + " (" + f + " and " + g + ")", () -> {
            FamilyStore store = Check.with(f, g);
            long before = store.digest();
            Check.same("answer", call.answer(store, 0, 1), due);
            Check.same("nothing changes", store.digest(), before);
        });
    }

    private static void areEqual() {
        String method = "promise 33 areEqual";
        pair(method, FamilyStore::areEqual, "two empty families", "0", "a - a", true);
        pair(method, FamilyStore::areEqual, "the empty family and the empty set", "0", "1", false);
        pair(method, FamilyStore::areEqual, "the empty set and the empty family", "1", "0", false);
        pair(method, FamilyStore::areEqual, "the same sets, made otherwise", "b + al", "la + b + al", true);
        pair(method, FamilyStore::areEqual, "f has one set more", "a + b", "a", false);
        pair(method, FamilyStore::areEqual, "g has one set more", "a", "a + b", false);
        pair(method, FamilyStore::areEqual, "as many sets, but others", "a + b", "a + c", false);
        pair(method, FamilyStore::areEqual, "with and without the empty set", "1 + a", "a", false);
        Check.test(method + ": a family and itself", () -> {
            FamilyStore store = Check.with("a + bl", "0");
            Check.same("a + bl", store.areEqual(0, 0), true);
            Check.same("0", store.areEqual(1, 1), true);
        });
        Check.test(method + ": all sets, and all but the last", () -> {
            FamilyStore store = store();
            Check.eval(store, "#3 - abcdefghijkl");
            Check.same("equal", store.areEqual(3, 6), false);
        });
    }

    private static void isPartOf() {
        String method = "promise 34 isPartOf";
        pair(method, FamilyStore::isPartOf, "two empty families", "0", "a - a", true);
        pair(method, FamilyStore::isPartOf, "the empty family is a part of all", "0", "a", true);
        pair(method, FamilyStore::isPartOf, "no other is a part of the empty family", "1", "0", false);
        pair(method, FamilyStore::isPartOf, "equal families", "a + bl", "bl + a", true);
        pair(method, FamilyStore::isPartOf, "g has one set more", "a", "a + b", true);
        pair(method, FamilyStore::isPartOf, "f has one set more", "a + b", "a", false);
        pair(method, FamilyStore::isPartOf, "as many sets, but others", "a + b", "a + c", false);
        pair(method, FamilyStore::isPartOf, "a subset is no part", "a", "ab", false);
        pair(method, FamilyStore::isPartOf, "the empty set is a set like others", "1", "a", false);
        Check.test(method + ": a family and itself", () -> {
            FamilyStore store = Check.with("a + bl", "0");
            Check.same("a + bl", store.isPartOf(0, 0), true);
            Check.same("0", store.isPartOf(1, 1), true);
        });
        Check.test(method + ": all sets, and all but the last", () -> {
            FamilyStore store = store();
            Check.eval(store, "#3 - abcdefghijkl");
            Check.same("more", store.isPartOf(3, 6), false);
            Check.same("less", store.isPartOf(6, 3), true);
        });
    }

    private static void setAt() {
        String method = "promise 35 setAt: ";
        asks(method + "index 0", store -> store.setAt(0, 0), 0);
        asks(method + "sets in ascending order of their masks", store -> store.setAt(0, 3), 2048);
        asks(method + "the last index", store -> store.setAt(0, 4), 2054);
        asks(method + "the last of all sets", store -> store.setAt(3, 4095), 4095);
        for (int index : new int[] {-1, 5, 4096, Integer.MIN_VALUE, Integer.MAX_VALUE}) {
            Check.test(method + "no set at the index " + index, () -> {
                FamilyStore store = store();
                Check.refuses("setAt", Check.MISSING, () -> store.setAt(0, index));
            });
        }
        Check.test(method + "no set behind all 4096", () -> {
            FamilyStore store = store();
            Check.refuses("setAt", Check.MISSING, () -> store.setAt(3, 4096));
        });
        Check.test(method + "no set at index 0 of the empty family", () -> {
            FamilyStore store = store();
            Check.refuses("setAt", Check.MISSING, () -> store.setAt(1, 0));
        });
        Check.test(method + "a number of no family is told before an index without set", () -> {
            Scene scene = Scene.small();
            scene.refuses("setAt", Check.INDEX, () -> scene.store.setAt(4, -1));
            scene.refuses("setAt", Check.INDEX, () -> scene.store.setAt(-1, 0));
        });
        Check.test(method + "a refused call changes nothing", () -> {
            Scene scene = Scene.small();
            scene.refuses("setAt", Check.MISSING, () -> scene.store.setAt(Scene.SETS, 3));
        });
    }

    private static void indexOf() {
        String method = "promise 36 indexOf: ";
        asks(method + "the empty set is the first", store -> store.indexOf(0, 0), 0);
        asks(method + "sets in ascending order of their masks", store -> store.indexOf(0, 2048), 3);
        asks(method + "the last set", store -> store.indexOf(0, 2054), 4);
        asks(method + "the last of all sets", store -> store.indexOf(3, 4095), 4095);
        asks(method + "a set that is not in the family", store -> store.indexOf(0, 2), -1);
        asks(method + "a set behind all sets of the family", store -> store.indexOf(0, 4095), -1);
        asks(method + "the empty set is not in the family", store -> store.indexOf(4, 0), -1);
        asks(method + "the empty family", store -> store.indexOf(1, 0), -1);
        for (int mask : NO_MASKS) {
            asks(method + "the int " + mask + " is no mask", store -> store.indexOf(3, mask), -1);
        }
        asks(method + "each index of all sets", store -> {
            int wrong = 0;
            for (int mask = 0; mask < 4096; mask += 13) {
                wrong += store.indexOf(3, mask) == mask ? 0 : 1;
            }
            return wrong;
        }, 0);
    }
}
