/** The edges of promises 14 to 28: what the operations make of empty, equal, and great families. */
final class OperationEdges {
    private static final int ALL = 4096;

    private OperationEdges() {
    }

    static void run() {
        union();
        intersection();
        difference();
        join();
        meet();
        quotient();
        remainder();
        supersets();
        subsets();
        maximal();
        minimal();
        hitting();
        closure();
        change();
        withCost();
    }

    /** The operation on the values of two texts; f and g stay as they are, and the number is the next one. */
    private static void ofTwo(String method, Refusals.OfTwo call, String name, String f, String g, String due) {
        Check.test(method + ": " + name + " (" + f + " and " + g + ")", () -> {
            FamilyStore store = Check.with(f, g, f, g);
            Check.same("number", call.answer(store, 0, 1), 4);
            Check.same("sets", Check.written(store, 4), due);
            Check.same("f stays", store.areEqual(0, 2), true);
            Check.same("g stays", store.areEqual(1, 3), true);
            if (f.equals(g)) {
                Check.same("the same family twice", Check.written(store, (int) call.answer(store, 0, 0)), due);
            }
        });
    }

    private static void ofOne(String method, Refusals.OfOne call, String name, String f, String due) {
        Check.test(method + ": " + name + " (" + f + ")", () -> {
            FamilyStore store = Check.with(f, f);
            Check.same("number", call.answer(store, 0), 2);
            Check.same("sets", Check.written(store, 2), due);
            Check.same("f stays", store.areEqual(0, 1), true);
        });
    }

    /** How many sets the operation has on families of all sets with so many elements (-1: with any). */
    private static void ofGreat(String method, Refusals.OfTwo call, int sizeOfF, int sizeOfG, int due) {
        Check.test(method + ": all sets of size " + sizeOfF + " and all of size " + sizeOfG, () -> {
            FamilyStore store = new FamilyStore();
            store.subsetsOf(4095, sizeOfF);
            store.subsetsOf(4095, sizeOfG);
            Check.same("sets", store.count((int) call.answer(store, 0, 1)), due);
        });
    }

    private static void union() {
        String method = "promise 14 union";
        ofTwo(method, FamilyStore::union, "two empty families", "0", "0", "0");
        ofTwo(method, FamilyStore::union, "f is empty", "0", "a", "a");
        ofTwo(method, FamilyStore::union, "g is empty", "a", "0", "a");
        ofTwo(method, FamilyStore::union, "equal families", "a + bl", "a + bl", "a+bl");
        ofTwo(method, FamilyStore::union, "the empty set in one of them", "1", "a", "1+a");
        ofTwo(method, FamilyStore::union, "sets that both have count once", "a + bl", "bl + c", "a+c+bl");
        ofGreat(method, FamilyStore::union, -1, -1, ALL);
        ofGreat(method, FamilyStore::union, 0, 12, 2);
    }

    private static void intersection() {
        String method = "promise 15 intersection";
        ofTwo(method, FamilyStore::intersection, "two empty families", "0", "0", "0");
        ofTwo(method, FamilyStore::intersection, "f is empty", "0", "a", "0");
        ofTwo(method, FamilyStore::intersection, "g is empty", "a", "0", "0");
        ofTwo(method, FamilyStore::intersection, "equal families", "a + bl", "a + bl", "a+bl");
        ofTwo(method, FamilyStore::intersection, "no set in common", "a + ab", "b", "0");
        ofTwo(method, FamilyStore::intersection, "the empty set in both", "1 + a", "1 + b", "1");
        ofGreat(method, FamilyStore::intersection, -1, -1, ALL);
        ofGreat(method, FamilyStore::intersection, -1, 12, 1);
    }

    private static void difference() {
        String method = "promise 16 difference";
        ofTwo(method, FamilyStore::difference, "two empty families", "0", "0", "0");
        ofTwo(method, FamilyStore::difference, "f is empty", "0", "a", "0");
        ofTwo(method, FamilyStore::difference, "g is empty", "a", "0", "a");
        ofTwo(method, FamilyStore::difference, "equal families", "a + bl", "a + bl", "0");
        ofTwo(method, FamilyStore::difference, "sets of g that f has not", "a + bl", "bl + c", "a");
        ofTwo(method, FamilyStore::difference, "the empty set is taken away", "1 + a", "1", "a");
        ofGreat(method, FamilyStore::difference, -1, 0, ALL - 1);
        ofGreat(method, FamilyStore::difference, -1, -1, 0);
    }

    private static void join() {
        String method = "promise 17 join";
        ofTwo(method, FamilyStore::join, "two empty families", "0", "0", "0");
        ofTwo(method, FamilyStore::join, "f is empty", "0", "1 + a", "0");
        ofTwo(method, FamilyStore::join, "g is empty", "1 + a", "0", "0");
        ofTwo(method, FamilyStore::join, "f is the empty set alone", "1", "a + bl", "a+bl");
        ofTwo(method, FamilyStore::join, "g is the empty set alone", "a + bl", "1", "a+bl");
        ofTwo(method, FamilyStore::join, "the empty set twice", "1", "1", "1");
        ofTwo(method, FamilyStore::join, "equal families", "a + b", "a + b", "a+b+ab");
        ofTwo(method, FamilyStore::join, "sets that overlap", "ab", "bc", "abc");
        ofTwo(method, FamilyStore::join, "the least and the greatest element", "a", "l", "al");
        ofGreat(method, FamilyStore::join, -1, -1, ALL);
        ofGreat(method, FamilyStore::join, -1, 12, 1);
        ofGreat(method, FamilyStore::join, 11, 11, 13);
        ofGreat(method, FamilyStore::join, 6, 6, 924 + 792 + 495 + 220 + 66 + 12 + 1);
    }

    private static void meet() {
        String method = "promise 18 meet";
        ofTwo(method, FamilyStore::meet, "two empty families", "0", "0", "0");
        ofTwo(method, FamilyStore::meet, "f is empty", "0", "1 + a", "0");
        ofTwo(method, FamilyStore::meet, "g is empty", "1 + a", "0", "0");
        ofTwo(method, FamilyStore::meet, "f is the empty set alone", "1", "a + bl", "1");
        ofTwo(method, FamilyStore::meet, "g is the empty set alone", "a + bl", "1", "1");
        ofTwo(method, FamilyStore::meet, "no element in common", "a", "b", "1");
        ofTwo(method, FamilyStore::meet, "equal families", "ab + bc", "ab + bc", "b+ab+bc");
        ofTwo(method, FamilyStore::meet, "the set of all elements", "abcdefghijkl", "a + l", "a+l");
        ofGreat(method, FamilyStore::meet, -1, -1, ALL);
        ofGreat(method, FamilyStore::meet, -1, 0, 1);
        ofGreat(method, FamilyStore::meet, 1, 1, 13);
        ofGreat(method, FamilyStore::meet, 6, 6, 924 + 792 + 495 + 220 + 66 + 12 + 1);
    }

    private static void quotient() {
        String method = "promise 19 quotient";
        ofTwo(method, FamilyStore::quotient, "f is empty", "0", "a + b", "0");
        ofTwo(method, FamilyStore::quotient, "f is empty, g the empty set alone", "0", "1", "0");
        ofTwo(method, FamilyStore::quotient, "g is the empty set alone", "1 + a + bl", "1", "1+a+bl");
        ofTwo(method, FamilyStore::quotient, "the empty set by itself", "1", "1", "1");
        ofTwo(method, FamilyStore::quotient, "equal families", "ab + c", "ab + c", "1");
        ofTwo(method, FamilyStore::quotient, "no set fits", "a", "b", "0");
        ofTwo(method, FamilyStore::quotient, "a set must fit all sets of g", "ab + ac + bd", "b + c", "a");
        ofTwo(method, FamilyStore::quotient, "no element in common with g", "a", "a", "1");
        ofTwo(method, FamilyStore::quotient, "no element in common with any set of g", "ab", "ab", "1");
        ofTwo(method, FamilyStore::quotient, "the empty set among the sets of g", "b + ab + c", "1 + a", "b");
        ofTwo(method, FamilyStore::quotient, "the least and the greatest element", "al + kl", "l", "a+k");
        ofGreat(method, FamilyStore::quotient, -1, 0, ALL);
        ofGreat(method, FamilyStore::quotient, -1, -1, 1);
        ofGreat(method, FamilyStore::quotient, -1, 12, 1);
        ofGreat(method, FamilyStore::quotient, 2, 1, 0);
    }

    private static void remainder() {
        String method = "promise 20 remainder";
        ofTwo(method, FamilyStore::remainder, "f is empty", "0", "a + b", "0");
        ofTwo(method, FamilyStore::remainder, "f is empty, g the empty set alone", "0", "1", "0");
        ofTwo(method, FamilyStore::remainder, "g is the empty set alone", "1 + a + bl", "1", "0");
        ofTwo(method, FamilyStore::remainder, "equal families", "ab + c", "ab + c", "0");
        ofTwo(method, FamilyStore::remainder, "one set by itself", "a", "a", "0");
        ofTwo(method, FamilyStore::remainder, "the empty set by itself", "1", "1", "0");
        ofTwo(method, FamilyStore::remainder, "the quotient is empty", "a + bl", "c", "a+bl");
        ofTwo(method, FamilyStore::remainder, "sets that are not in the join", "ab + ac + bd", "b + c", "bd");
        ofTwo(method, FamilyStore::remainder, "the empty set remains", "1 + ab", "b", "1");
        ofTwo(method, FamilyStore::remainder, "the empty set among the sets of g", "b + ab + c", "1 + a", "c");
        ofGreat(method, FamilyStore::remainder, -1, 0, 0);
        ofGreat(method, FamilyStore::remainder, -1, -1, 0);
        ofGreat(method, FamilyStore::remainder, -1, 12, ALL - 1);
        ofGreat(method, FamilyStore::remainder, 2, 1, 66);
    }

    private static void supersets() {
        String method = "promise 21 supersets";
        ofTwo(method, FamilyStore::supersets, "two empty families", "0", "0", "0");
        ofTwo(method, FamilyStore::supersets, "f is empty", "0", "1", "0");
        ofTwo(method, FamilyStore::supersets, "g is empty", "1 + a", "0", "0");
        ofTwo(method, FamilyStore::supersets, "a set is a superset of itself", "a + b", "a", "a");
        ofTwo(method, FamilyStore::supersets, "all sets are supersets of the empty set", "1 + a", "1", "1+a");
        ofTwo(method, FamilyStore::supersets, "the empty set is a superset of no other", "1", "a", "0");
        ofTwo(method, FamilyStore::supersets, "of one set of g, not of all", "a + b + abl", "a + l", "a+abl");
        ofGreat(method, FamilyStore::supersets, -1, 12, 1);
        ofGreat(method, FamilyStore::supersets, -1, 0, ALL);
        ofGreat(method, FamilyStore::supersets, -1, 11, 13);
    }

    private static void subsets() {
        String method = "promise 22 subsets";
        ofTwo(method, FamilyStore::subsets, "two empty families", "0", "0", "0");
        ofTwo(method, FamilyStore::subsets, "f is empty", "0", "1", "0");
        ofTwo(method, FamilyStore::subsets, "g is empty", "1 + a", "0", "0");
        ofTwo(method, FamilyStore::subsets, "a set is a subset of itself", "a + b", "a", "a");
        ofTwo(method, FamilyStore::subsets, "the empty set is a subset of all", "1 + a", "b", "1");
        ofTwo(method, FamilyStore::subsets, "only the empty set is a subset of the empty set", "1 + a", "1", "1");
        ofTwo(method, FamilyStore::subsets, "of one set of g, not of all", "a + l + al", "ab + kl", "a+l");
        ofGreat(method, FamilyStore::subsets, -1, 12, ALL);
        ofGreat(method, FamilyStore::subsets, -1, 0, 1);
        ofGreat(method, FamilyStore::subsets, -1, 1, 13);
    }

    private static void maximal() {
        String method = "promise 23 maximal";
        ofOne(method, FamilyStore::maximal, "the empty family", "0", "0");
        ofOne(method, FamilyStore::maximal, "the empty set alone", "1", "1");
        ofOne(method, FamilyStore::maximal, "the empty set beside another", "1 + a", "a");
        ofOne(method, FamilyStore::maximal, "a set is no proper subset of itself", "a", "a");
        ofOne(method, FamilyStore::maximal, "sets that are no subsets of each other", "ab + bc + kl", "ab+bc+kl");
        ofOne(method, FamilyStore::maximal, "a subset with one element less", "a + al", "al");
        ofOne(method, FamilyStore::maximal, "a subset with many elements less", "a + abcdefghijkl", "abcdefghijkl");
        ofOne(method, FamilyStore::maximal, "a subset of a subset", "a + ab + abc", "abc");
        Check.test(method + ": all sets", () -> {
            FamilyStore store = new FamilyStore();
            store.subsetsOf(4095, -1);
            Check.same("sets", Check.written(store, store.maximal(0)), "abcdefghijkl");
        });
    }

    private static void minimal() {
        String method = "promise 24 minimal";
        ofOne(method, FamilyStore::minimal, "the empty family", "0", "0");
        ofOne(method, FamilyStore::minimal, "the empty set alone", "1", "1");
        ofOne(method, FamilyStore::minimal, "the empty set beside another", "1 + a", "1");
        ofOne(method, FamilyStore::minimal, "a set is no proper subset of itself", "a", "a");
        ofOne(method, FamilyStore::minimal, "sets that are no subsets of each other", "ab + bc + kl", "ab+bc+kl");
        ofOne(method, FamilyStore::minimal, "a superset with one element more", "a + al", "a");
        ofOne(method, FamilyStore::minimal, "a superset with many elements more", "a + abcdefghijkl", "a");
        ofOne(method, FamilyStore::minimal, "a superset of a superset", "a + ab + abc", "a");
        Check.test(method + ": all sets", () -> {
            FamilyStore store = new FamilyStore();
            store.subsetsOf(4095, -1);
            Check.same("sets", Check.written(store, store.minimal(0)), "1");
        });
    }

    private static void hitting() {
        String method = "promise 25 hitting";
        ofOne(method, FamilyStore::hitting, "of the empty family the empty set alone", "0", "1");
        ofOne(method, FamilyStore::hitting, "of the empty set alone no set", "1", "0");
        ofOne(method, FamilyStore::hitting, "of a family with the empty set no set", "1 + a + bl", "0");
        ofOne(method, FamilyStore::hitting, "one element", "l", "l");
        ofOne(method, FamilyStore::hitting, "each element of one set", "abl", "a+b+l");
        ofOne(method, FamilyStore::hitting, "each set is hit", "a + b + l", "abl");
        ofOne(method, FamilyStore::hitting, "no proper subset is a hitting set", "ab + b", "b");
        ofOne(method, FamilyStore::hitting, "hitting sets of different sizes", "ab + ac", "a+bc");
        ofOne(method, FamilyStore::hitting, "of all elements one by one", "a+b+c+d+e+f+g+h+i+j+k+l", "abcdefghijkl");
        ofOne(method, FamilyStore::hitting, "of the set of all elements", "abcdefghijkl", "a+b+c+d+e+f+g+h+i+j+k+l");
        Check.test(method + ": all sets", () -> {
            FamilyStore store = new FamilyStore();
            store.subsetsOf(4095, -1);
            Check.same("none", store.count(store.hitting(0)), 0);
            Check.eval(store, "#0 - 1");
            Check.same("all but the empty set", Check.written(store, store.hitting(2)), "abcdefghijkl");
        });
    }

    private static void closure() {
        String method = "promise 26 closure";
        ofOne(method, FamilyStore::closure, "the empty family", "0", "0");
        ofOne(method, FamilyStore::closure, "the empty set alone", "1", "1");
        ofOne(method, FamilyStore::closure, "the empty set and the set itself are subsets", "l", "1+l");
        ofOne(method, FamilyStore::closure, "subsets of two sets", "ab + bl", "1+a+b+ab+l+bl");
        ofOne(method, FamilyStore::closure, "all subsets are there already", "1 + a + b + ab", "1+a+b+ab");
        Check.test(method + ": the set of all elements", () -> {
            FamilyStore store = Check.with("abcdefghijkl");
            Check.same("sets", store.count(store.closure(0)), ALL);
        });
    }

    private static void changes(String name, String f, int element, String due) {
        ofOne("promise 27 change", (store, number) -> store.change(number, element), name, f, due);
    }

    private static void change() {
        changes("the empty family", "0", 0, "0");
        changes("the empty set gets the element", "1", 0, "a");
        changes("the element alone becomes the empty set", "a", 0, "1");
        changes("sets with and sets without the element", "1 + ab + c", 0, "a+b+ac");
        changes("sets that only change places", "b + ab", 0, "b+ab");
        changes("the last element", "1 + al + b", 11, "a+l+bl");
        changes("the last element of the lower half", "f + g", 5, "1+fg");
        changes("the first element of the upper half", "f + g", 6, "1+fg");
        for (int element = 0; element < 12; element++) {
            int each = element;
            Check.test("promise 27 change: the element " + element + " twice gives the family again", () -> {
                FamilyStore store = Check.with("1 + ab + cdg + fl + hijk + abcdefghijkl");
                Check.same("changed", store.areEqual(0, store.change(0, each)), false);
                Check.same("changed back", store.areEqual(0, store.change(1, each)), true);
            });
        }
    }

    /** In this store a costs 5, b costs -3 and l 1000; family 0 is 1 + a + b + ab + l, with 0, 5, -3, 2 and 1000. */
    private static FamilyStore costs() {
        FamilyStore store = Check.with("1 + a + b + ab + l");
        store.setCost(0, 5);
        store.setCost(1, -3);
        store.setCost(11, 1000);
        return store;
    }

    private static void costs(String name, int low, int high, String due) {
        Check.test("promise 28 withCost: " + name, () -> {
            FamilyStore store = costs();
            Check.same("number", store.withCost(0, low, high), 1);
            Check.same("sets", Check.written(store, 1), due);
            Check.same("f stays", store.count(0), 5);
        });
    }

    private static void withCost() {
        costs("a cost that is low belongs", 2, 999, "a+ab");
        costs("a cost below low does not", 3, 999, "a");
        costs("a cost that is high belongs", 1, 5, "a+ab");
        costs("a cost above high does not", 1, 4, "ab");
        costs("low and high are the same cost", 5, 5, "a");
        costs("low and high are the same, and no set has this cost", 6, 6, "0");
        costs("low is greater than high", 6, 5, "0");
        costs("low is the greatest int, high the least", Integer.MAX_VALUE, Integer.MIN_VALUE, "0");
        costs("all costs", Integer.MIN_VALUE, Integer.MAX_VALUE, "1+a+b+ab+l");
        costs("up to the least int", Integer.MIN_VALUE, Integer.MIN_VALUE, "0");
        costs("from the greatest int", Integer.MAX_VALUE, Integer.MAX_VALUE, "0");
        costs("negative costs", -3, -1, "b");
        costs("the empty set costs 0", 0, 0, "1");
        Check.test("promise 28 withCost: the empty family", () -> {
            FamilyStore store = Check.with("0");
            Check.same("sets", Check.written(store, store.withCost(0, -1, 1)), "0");
        });
        Check.test("promise 28 withCost: the dearest and the cheapest set that can be", () -> {
            FamilyStore store = Check.with("abcdefghijkl");
            for (int sign = -1; sign <= 1; sign += 2) {
                for (int element = 0; element < 12; element++) {
                    store.setCost(element, 1000 * sign);
                }
                Check.same("the cost", store.count(store.withCost(0, 12000 * sign, 12000 * sign)), 1);
                Check.same("one more", store.count(store.withCost(0, 12000 * sign + 1, 13000)), 0);
                Check.same("one less", store.count(store.withCost(0, -13000, 12000 * sign - 1)), 0);
            }
        });
        Check.test("promise 28 withCost: later costs leave the family as it is", () -> {
            FamilyStore store = costs();
            store.withCost(0, 5, 5);
            store.setCost(0, 6);
            Check.same("sets", Check.written(store, 1), "a");
            Check.same("new costs count in new calls", Check.written(store, store.withCost(0, 6, 6)), "a");
        });
    }
}
