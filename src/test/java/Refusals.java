/** What methods with numbers of families refuse: a test for each method, each number, and each order of two. */
final class Refusals {
    interface OfOne {
        Object answer(FamilyStore store, int f);
    }

    interface OfTwo {
        Object answer(FamilyStore store, int f, int g);
    }

    private static final String FULL = "200 families have been created";

    private Refusals() {
    }

    static void run() {
        ofOne("promise 6 write", FamilyStore::write);
        ofOne("promise 10 release", FamilyStore::release);
        ofOne("promise 13 nodesOf", FamilyStore::nodesOf);
        makersOfTwo();
        makersOfOne();
        questions();
        ofTwo("promise 33 areEqual", FamilyStore::areEqual);
        ofTwo("promise 34 isPartOf", FamilyStore::isPartOf);
    }

    private static void makersOfTwo() {
        makerOfTwo("promise 14 union", FamilyStore::union);
        makerOfTwo("promise 15 intersection", FamilyStore::intersection);
        makerOfTwo("promise 16 difference", FamilyStore::difference);
        makerOfTwo("promise 17 join", FamilyStore::join);
        makerOfTwo("promise 18 meet", FamilyStore::meet);
        makerOfTwo("promise 19 quotient", FamilyStore::quotient);
        makerOfTwo("promise 20 remainder", FamilyStore::remainder);
        makerOfTwo("promise 21 supersets", FamilyStore::supersets);
        makerOfTwo("promise 22 subsets", FamilyStore::subsets);
        byTheEmptyFamily("promise 19 quotient", FamilyStore::quotient);
        byTheEmptyFamily("promise 20 remainder", FamilyStore::remainder);
    }

    private static void makersOfOne() {
        makerOfOne("promise 23 maximal", FamilyStore::maximal);
        makerOfOne("promise 24 minimal", FamilyStore::minimal);
        makerOfOne("promise 25 hitting", FamilyStore::hitting);
        makerOfOne("promise 26 closure", FamilyStore::closure);
        makerOfOne("promise 27 change", (store, f) -> store.change(f, 0));
        makerOfOne("promise 28 withCost", (store, f) -> store.withCost(f, 0, 9));
        elements("promise 27 change", FamilyStore::change);
        Check.test("promise 27 change: an element that there is not is told before " + FULL, () -> {
            Scene full = Scene.full();
            full.refuses("element 12", Check.INDEX, () -> full.store.change(Scene.SETS, 12));
            full.refuses("element -1", Check.INDEX, () -> full.store.change(Scene.SETS, -1));
        });
    }

    private static void questions() {
        ofOne("promise 29 count", FamilyStore::count);
        ofOne("promise 30 countOfSize", (store, f) -> store.countOfSize(f, 1));
        ofOne("promise 31 countWith", (store, f) -> store.countWith(f, 0));
        elements("promise 31 countWith", FamilyStore::countWith);
        ofOne("promise 32 contains", (store, f) -> store.contains(f, 0));
        ofOne("promise 35 setAt", (store, f) -> store.setAt(f, 0));
        ofOne("promise 36 indexOf", (store, f) -> store.indexOf(f, 0));
        ofOne("promise 38 leastCost", FamilyStore::leastCost);
        ofOne("promise 39 meanCost", FamilyStore::meanCost);
        ofOne("promise 40 enumerate", (store, f) -> store.enumerate(f, 9, 5));
    }

    private static void ofOne(String method, OfOne call) {
        Check.test(method + ": the number -1", () -> refusedAsUnknown(call, -1));
        Check.test(method + ": the least int", () -> refusedAsUnknown(call, Integer.MIN_VALUE));
        Check.test(method + ": the greatest int", () -> refusedAsUnknown(call, Integer.MAX_VALUE));
        Check.test(method + ": the number that the next family gets", () -> {
            Scene scene = Scene.small();
            scene.refuses("4", Check.INDEX, () -> call.answer(scene.store, 4));
            scene.store.single(1);
            Check.same("4 is known then", Check.outcome(() -> call.answer(scene.store, 4)) instanceof String, false);
        });
        Check.test(method + ": the number 200 in a full store", () -> {
            Scene full = Scene.full();
            full.refuses("200", Check.INDEX, () -> call.answer(full.store, 200));
        });
        Check.test(method + ": any number in a new store", () -> {
            FamilyStore none = new FamilyStore();
            Check.refuses("0", Check.INDEX, () -> call.answer(none, 0));
        });
        Check.test(method + ": a family that was released", () -> {
            Scene scene = Scene.small();
            scene.refuses("released", Check.MISSING, () -> call.answer(scene.store, Scene.RELEASED));
        });
        Check.test(method + ": the latest family when it was released", () -> {
            FamilyStore store = Check.with("a");
            store.release(0);
            Check.refuses("released", Check.MISSING, () -> call.answer(store, 0));
        });
    }

    private static void refusedAsUnknown(OfOne call, int number) {
        Scene scene = Scene.small();
        scene.refuses("family " + number, Check.INDEX, () -> call.answer(scene.store, number));
    }

    private static void makerOfOne(String method, OfOne call) {
        ofOne(method, call);
        full(method, store -> call.answer(store, Scene.SETS));
        Check.test(method + ": a number of no family is told before " + FULL, () -> {
            Scene full = Scene.full();
            full.refuses("family 200", Check.INDEX, () -> call.answer(full.store, 200));
            full.refuses("family -1", Check.INDEX, () -> call.answer(full.store, -1));
        });
        Check.test(method + ": a released family is told before " + FULL, () -> {
            Scene full = Scene.full();
            full.refuses("released", Check.MISSING, () -> call.answer(full.store, Scene.RELEASED));
        });
    }

    private static void ofTwo(String method, OfTwo call) {
        ofOne(method + " f", (store, f) -> call.answer(store, f, Scene.SETS));
        ofOne(method + " g", (store, g) -> call.answer(store, Scene.SETS, g));
        ofOne(method + " f and g", (store, f) -> call.answer(store, f, f));
        Check.test(method + ": f of no family is told before a released g", () -> {
            Scene scene = Scene.small();
            scene.refuses("4, 2", Check.INDEX, () -> call.answer(scene.store, 4, Scene.RELEASED));
            scene.refuses("-1, 2", Check.INDEX, () -> call.answer(scene.store, -1, Scene.RELEASED));
        });
        Check.test(method + ": g of no family is told before a released f", () -> {
            Scene scene = Scene.small();
            scene.refuses("2, 4", Check.INDEX, () -> call.answer(scene.store, Scene.RELEASED, 4));
            scene.refuses("2, -1", Check.INDEX, () -> call.answer(scene.store, Scene.RELEASED, -1));
        });
    }

    private static void makerOfTwo(String method, OfTwo call) {
        ofTwo(method, call);
        full(method, store -> call.answer(store, Scene.SETS, Scene.SETS));
        Check.test(method + ": a number of no family is told before " + FULL, () -> {
            Scene full = Scene.full();
            full.refuses("200, 0", Check.INDEX, () -> call.answer(full.store, 200, Scene.SETS));
            full.refuses("0, 200", Check.INDEX, () -> call.answer(full.store, Scene.SETS, 200));
        });
        Check.test(method + ": a released family is told before " + FULL, () -> {
            Scene full = Scene.full();
            full.refuses("2, 0", Check.MISSING, () -> call.answer(full.store, Scene.RELEASED, Scene.SETS));
            full.refuses("0, 2", Check.MISSING, () -> call.answer(full.store, Scene.SETS, Scene.RELEASED));
        });
    }

    interface Maker {
        Object answer(FamilyStore store);
    }

    /** Also used for methods that make a family of no other. */
    static void full(String method, Maker call) {
        Check.test(method + ": " + FULL, () -> {
            Scene full = Scene.full();
            full.refuses("the 201st family", Check.STATE, () -> call.answer(full.store));
        });
        Check.test(method + ": 199 families leave room for one more", () -> {
            FamilyStore store = Check.with("ab + c + 1");
            while (store.createdCount() < 199) {
                store.single(1);
            }
            Check.same("the 200th family", call.answer(store), 199);
            Check.refuses("the 201st family", Check.STATE, () -> call.answer(store));
        });
        Check.test(method + ": " + FULL + ", and one is released afterwards", () -> {
            Scene full = Scene.full();
            full.store.release(199);
            Check.refuses("the 201st family", Check.STATE, () -> call.answer(full.store));
        });
    }

    private static void elements(String method, OfTwo call) {
        for (int element : new int[] {-1, 12, Integer.MIN_VALUE, Integer.MAX_VALUE}) {
            Check.test(method + ": the element " + element, () -> {
                Scene scene = Scene.small();
                scene.refuses("element", Check.INDEX, () -> call.answer(scene.store, Scene.SETS, element));
                scene.refuses("of the empty family", Check.INDEX,
                        () -> call.answer(scene.store, Scene.EMPTY, element));
            });
            Check.test(method + ": the element " + element + " is told before a released family", () -> {
                Scene scene = Scene.small();
                scene.refuses("element", Check.INDEX, () -> call.answer(scene.store, Scene.RELEASED, element));
            });
        }
        for (int element : new int[] {0, 11}) {
            Check.test(method + ": there is the element " + element, () -> {
                FamilyStore store = Check.with("ab + c + 1");
                Object got = Check.outcome(() -> call.answer(store, 0, element));
                Check.same("answers", got instanceof Integer, true);
            });
        }
    }

    private static void byTheEmptyFamily(String method, OfTwo call) {
        Check.test(method + ": g is empty", () -> {
            Scene scene = Scene.small();
            scene.refuses("g is empty", Check.ARITHMETIC, () -> call.answer(scene.store, Scene.SETS, Scene.EMPTY));
        });
        Check.test(method + ": f and g are empty", () -> {
            Scene scene = Scene.small();
            scene.refuses("both", Check.ARITHMETIC, () -> call.answer(scene.store, Scene.EMPTY, Scene.EMPTY));
        });
        Check.test(method + ": f alone is empty, which is no error", () -> {
            FamilyStore store = Check.with("a", "0");
            call.answer(store, 1, 0);
            Check.same("empty too", Check.written(store, 2), "0");
        });
        Check.test(method + ": " + FULL + " is told before an empty g", () -> {
            Scene full = Scene.full();
            full.refuses("g is empty", Check.STATE, () -> call.answer(full.store, Scene.SETS, Scene.EMPTY));
        });
        Check.test(method + ": a released f is told before an empty g", () -> {
            Scene scene = Scene.small();
            scene.refuses("f", Check.MISSING, () -> call.answer(scene.store, Scene.RELEASED, Scene.EMPTY));
        });
        Check.test(method + ": f of no family is told before an empty g", () -> {
            Scene scene = Scene.small();
            scene.refuses("f", Check.INDEX, () -> call.answer(scene.store, 4, Scene.EMPTY));
        });
    }
}
