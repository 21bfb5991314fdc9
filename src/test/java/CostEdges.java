import java.math.BigDecimal;
import java.math.MathContext;
import java.util.ArrayList;
import java.util.Comparator;
import java.util.List;

/** The edges of promises 37 to 42: costs, the cheapest sets, and the digest. */
final class CostEdges {
    private CostEdges() {
    }

    static void run() {
        setCost();
        refusedCosts();
        leastCost();
        meanCost();
        bounds();
        limits();
        refusedLimits();
        order();
        longList();
        keptList();
        enumerated();
        digest();
    }

    private static void setCost() {
        Check.test("promise 37 setCost: all costs are 0 at first", () -> {
            FamilyStore store = new FamilyStore();
            for (int element = 0; element < 12; element++) {
                Check.same("cost of " + element, store.setCost(element, 1), 0);
            }
        });
        for (int cost : new int[] {-1000, 1000, 0, -1}) {
            Check.test("promise 37 setCost: the cost " + cost + " is taken, and returned by the next call", () -> {
                FamilyStore store = Check.with("l");
                store.setCost(11, 7);
                Check.same("before", store.setCost(11, cost), 7);
                Check.same("least", store.leastCost(0), cost);
                Check.same("then", store.setCost(11, 7), cost);
            });
        }
        for (int element : new int[] {0, 5, 6, 11}) {
            Check.test("promise 37 setCost: the element " + element + " alone gets the cost", () -> {
                FamilyStore store = new FamilyStore();
                store.setCost(element, 9);
                for (int each = 0; each < 12; each++) {
                    store.single(1 << each);
                    Check.same("cost of " + each, store.leastCost(each), each == element ? 9 : 0);
                }
            });
        }
    }

    private static void refusedCosts() {
        for (int element : new int[] {-1, 12, Integer.MIN_VALUE, Integer.MAX_VALUE}) {
            Check.test("promise 37 setCost: the element " + element, () -> {
                Scene scene = Scene.small();
                scene.refuses("setCost", Check.INDEX, () -> scene.store.setCost(element, 1));
            });
            Check.test("promise 37 setCost: the element " + element + " is told before a wrong cost", () -> {
                Scene scene = Scene.small();
                scene.refuses("setCost", Check.INDEX, () -> scene.store.setCost(element, 1001));
            });
        }
        for (int cost : new int[] {-1001, 1001, Integer.MIN_VALUE, Integer.MAX_VALUE}) {
            Check.test("promise 37 setCost: the cost " + cost, () -> {
                Scene scene = Scene.small();
                scene.refuses("setCost", Check.ARGUMENT, () -> scene.store.setCost(0, cost));
                Check.same("the cost before", scene.store.setCost(0, 1), 5);
            });
        }
    }

    /** Costs of a, b and l; family 0 is the text's, 1 is empty. */
    private static FamilyStore store(String text, int costOfA, int costOfB, int costOfL) {
        FamilyStore store = Check.with(text, "0");
        store.setCost(0, costOfA);
        store.setCost(1, costOfB);
        store.setCost(11, costOfL);
        return store;
    }

    private static FamilyStore allCost(int cost) {
        FamilyStore store = Check.with("abcdefghijkl");
        for (int element = 0; element < 12; element++) {
            store.setCost(element, cost);
        }
        return store;
    }

    private static void leastCost() {
        String method = "promise 38 leastCost: ";
        Check.test(method + "the empty set costs 0", () ->
            Check.same("least", store("1", 1, 1, 1).leastCost(0), 0));
        Check.test(method + "the empty set beside dearer sets", () ->
            Check.same("least", store("1 + a", 1, 1, 1).leastCost(0), 0));
        Check.test(method + "the cost of a set is the sum of its elements' costs", () ->
            Check.same("least", store("abl", 5, -700, 1000).leastCost(0), 305));
        Check.test(method + "negative costs are less", () ->
            Check.same("least", store("1 + a + ab + l", -3, -4, 5).leastCost(0), -7));
        Check.test(method + "the dearest set that can be", () ->
            Check.same("least", allCost(1000).leastCost(0), 12000));
        Check.test(method + "the cheapest set that can be", () ->
            Check.same("least", allCost(-1000).leastCost(0), -12000));
        isEmpty("promise 38 leastCost", FamilyStore::leastCost);
        Check.test(method + "costs count as they are at the call", () -> {
            FamilyStore store = store("a + b", 5, 6, 0);
            Check.same("before", store.leastCost(0), 5);
            store.setCost(0, 7);
            Check.same("after", store.leastCost(0), 6);
        });
    }

    private static void isEmpty(String method, Refusals.OfOne call) {
        Check.test(method + ": an empty family", () -> {
            Scene scene = Scene.small();
            scene.refuses("empty", Check.MISSING, () -> call.answer(scene.store, Scene.EMPTY));
        });
        Check.test(method + ": an empty family that an operation made", () -> {
            FamilyStore store = Check.with("a", "b");
            store.intersection(0, 1);
            Check.refuses("empty", Check.MISSING, () -> call.answer(store, 2));
        });
    }

    private static void mean(String name, FamilyStore store, int sum, int count) {
        double due = new BigDecimal(sum).divide(new BigDecimal(count), new MathContext(60)).doubleValue();
        Check.same("sets", store.count(0), count);
        Check.same(name, store.meanCost(0), due);
    }

    private static void meanCost() {
        String method = "promise 39 meanCost: ";
        Check.test(method + "of the empty set 0", () -> mean("mean", store("1", 1, 1, 1), 0, 1));
        Check.test(method + "costs that make up for each other, 0 and not -0", () ->
            Check.same("mean", store("a + b", -5, 5, 0).meanCost(0), 0.0));
        Check.test(method + "a third", () -> mean("mean", store("1 + a + b", 1, 0, 0), 1, 3));
        Check.test(method + "two thirds", () -> mean("mean", store("1 + a + b", 1, 1, 0), 2, 3));
        Check.test(method + "less than 0", () -> mean("mean", store("1 + a + b", -1, -1, 0), -2, 3));
        Check.test(method + "a seventh of a great sum", () ->
            mean("mean", store("1 + c + d + e + al + bl + abl", 999, 1000, 998), 999 + 998 + 1998 + 2997, 7));
        Check.test(method + "one set's cost", () -> mean("mean", store("abl", 5, -7, 11), 9, 1));
        Check.test(method + "the dearest set that can be", () -> mean("mean", allCost(1000), 12000, 1));
        Check.test(method + "the cheapest set that can be", () -> mean("mean", allCost(-1000), -12000, 1));
        Check.test(method + "4095 sets with the greatest sum", () -> {
            FamilyStore store = new FamilyStore();
            Check.eval(store, "sub(abcdefghijkl) - 1");
            for (int element = 0; element < 12; element++) {
                store.setCost(element, 1000);
            }
            mean("mean", store, 2048 * 12000, 4095);
        });
        isEmpty("promise 39 meanCost", FamilyStore::meanCost);
    }

    private static void lists(FamilyStore store, int bound, int limit, int... due) {
        Check.same("kept", store.enumerate(0, bound, limit), due.length);
        for (int i = 0; i < due.length; i++) {
            Check.same("set " + i, store.enumerated(i), due[i]);
        }
        Check.refuses("behind them", Check.INDEX, () -> store.enumerated(due.length));
    }

    /** The sets 1, a, b, ab and l with the costs 0, 5, -3, 2 and 1000. */
    private static FamilyStore fiveSets() {
        return store("1 + a + b + ab + l", 5, -3, 1000);
    }

    private static void bounds() {
        String method = "promise 40 enumerate: ";
        Check.test(method + "a cost that is the bound is not greater", () -> lists(fiveSets(), 2, 300, 2, 0, 3));
        Check.test(method + "a cost one above the bound is greater", () -> lists(fiveSets(), 1, 300, 2, 0));
        Check.test(method + "the least cost is the bound", () -> lists(fiveSets(), -3, 300, 2));
        Check.test(method + "all costs are greater than the bound", () -> lists(fiveSets(), -4, 300));
        Check.test(method + "the bound is the least int", () -> lists(fiveSets(), Integer.MIN_VALUE, 300));
        Check.test(method + "the bound is the greatest int", () ->
            lists(fiveSets(), Integer.MAX_VALUE, 300, 2, 0, 3, 1, 2048));
        Check.test(method + "the empty family", () -> {
            FamilyStore store = fiveSets();
            Check.same("kept", store.enumerate(1, Integer.MAX_VALUE, 300), 0);
            Check.refuses("none", Check.INDEX, () -> store.enumerated(0));
        });
        Check.test(method + "the dearest set that can be", () -> {
            lists(allCost(1000), 12000, 1, 4095);
            lists(allCost(1000), 11999, 1);
        });
        Check.test(method + "the cheapest set that can be", () -> {
            lists(allCost(-1000), -12000, 1, 4095);
            lists(allCost(-1000), -12001, 1);
        });
    }

    private static void limits() {
        String method = "promise 40 enumerate: ";
        Check.test(method + "the limit 1", () -> lists(fiveSets(), 2000, 1, 2));
        Check.test(method + "a limit below the number of sets leaves the first ones", () ->
            lists(fiveSets(), 2000, 4, 2, 0, 3, 1));
        Check.test(method + "the limit is the number of sets", () -> lists(fiveSets(), 2000, 5, 2, 0, 3, 1, 2048));
        Check.test(method + "the limit is greater than the number of sets", () ->
            lists(fiveSets(), 2000, 6, 2, 0, 3, 1, 2048));
        Check.test(method + "the limit 300 with more than 300 sets", () -> {
            FamilyStore store = new FamilyStore();
            store.subsetsOf(4095, -1);
            Check.same("kept", store.enumerate(0, 0, 300), 300);
            Check.same("the last one", store.enumerated(299), 299);
            Check.refuses("no more", Check.INDEX, () -> store.enumerated(300));
        });
        Check.test(method + "the limit 299 with more than 299 sets", () -> {
            FamilyStore store = new FamilyStore();
            store.subsetsOf(4095, -1);
            Check.same("kept", store.enumerate(0, 0, 299), 299);
            Check.refuses("no more", Check.INDEX, () -> store.enumerated(299));
        });
        Check.test(method + "the limit falls among sets with equal costs", () -> {
            FamilyStore store = store("l + c + b + a + 1", 7, 7, 7);
            store.setCost(2, 7);
            lists(store, 7, 3, 0, 1, 2);
        });
    }

    private static void refusedLimits() {
        String method = "promise 40 enumerate: ";
        for (int limit : new int[] {0, -1, 301, Integer.MIN_VALUE, Integer.MAX_VALUE}) {
            Check.test(method + "the limit " + limit, () -> {
                Scene scene = Scene.small();
                scene.refuses("enumerate", Check.ARGUMENT, () -> scene.store.enumerate(Scene.SETS, 9, limit));
                scene.refuses("of the empty family", Check.ARGUMENT,
                        () -> scene.store.enumerate(Scene.EMPTY, 9, limit));
            });
            Check.test(method + "a number of no family is told before the limit " + limit, () -> {
                Scene scene = Scene.small();
                scene.refuses("enumerate", Check.INDEX, () -> scene.store.enumerate(4, 9, limit));
            });
            Check.test(method + "a released family is told before the limit " + limit, () -> {
                Scene scene = Scene.small();
                scene.refuses("enumerate", Check.MISSING, () -> scene.store.enumerate(Scene.RELEASED, 9, limit));
            });
        }
    }

    private static void order() {
        String method = "promise 40 enumerate: ";
        Check.test(method + "ascending order of cost", () ->
            lists(store("a + b + l", 3, 2, 1), 9, 9, 2048, 2, 1));
        Check.test(method + "negative costs come before 0", () ->
            lists(store("1 + a + b + l", -1, -1000, 1), 9, 9, 2, 1, 0, 2048));
        Check.test(method + "equal costs in ascending order", () ->
            lists(store("l + abl + b + a + 1 + ab", 0, 0, 0), 0, 9, 0, 1, 2, 3, 2048, 2051));
        Check.test(method + "equal costs behind a lower one", () ->
            lists(store("l + b + a + ab", 4, 4, -4), 99, 9, 2048, 1, 2, 3));
        Check.test(method + "equal costs of sets of different sizes", () ->
            lists(store("l + ab", 2, 3, 5), 5, 9, 3, 2048));
    }

    private static int[] unevenCosts(FamilyStore store) {
        int[] costs = new int[12];
        for (int element = 0; element < 12; element++) {
            costs[element] = element * 37 % 23 - 11;
            store.setCost(element, costs[element]);
        }
        return costs;
    }

    private static int costOf(int mask, int[] costs) {
        int cost = 0;
        for (int element = 0; element < 12; element++) {
            cost += (mask >> element & 1) * costs[element];
        }
        return cost;
    }

    private static void longList() {
        Check.test("promise 40 enumerate: 300 of all sets in ascending order of cost, then of their masks", () -> {
            FamilyStore store = new FamilyStore();
            store.subsetsOf(4095, -1);
            int[] costs = unevenCosts(store);
            List<Integer> due = new ArrayList<>();
            for (int mask = 0; mask < 4096; mask++) {
                due.add(mask);
            }
            due.removeIf(mask -> costOf(mask, costs) > 7);
            due.sort(Comparator.comparingInt((Integer mask) -> costOf(mask, costs)).thenComparingInt(mask -> mask));
            Check.same("kept", store.enumerate(0, 7, 300), 300);
            for (int i = 0; i < 300; i++) {
                Check.same("set " + i, store.enumerated(i), due.get(i));
            }
        });
    }

    private static void keptList() {
        String method = "promise 40 enumerate: the list is kept ";
        Check.test(method + "when a later call has the limit 0", () -> staysAfter(Check.ARGUMENT, 0, 0));
        Check.test(method + "when a later call has the limit 301", () -> staysAfter(Check.ARGUMENT, 0, 301));
        Check.test(method + "when a later call names no family", () -> staysAfter(Check.INDEX, 9, 1));
        Check.test(method + "when a later call names a released family", () -> staysAfter(Check.MISSING, 2, 1));
        Check.test(method + "when costs change and the family is released", () -> {
            FamilyStore store = fiveSets();
            store.enumerate(0, 4, 2);
            store.setCost(1, 1000);
            store.release(0);
            Check.same("first", store.enumerated(0), 2);
            Check.same("second", store.enumerated(1), 0);
        });
        Check.test("promise 40 enumerate: a successful call replaces a longer list", () -> {
            FamilyStore store = fiveSets();
            store.enumerate(0, 2000, 5);
            Check.same("kept", store.enumerate(0, -3, 5), 1);
            Check.same("first", store.enumerated(0), 2);
            Check.refuses("second", Check.INDEX, () -> store.enumerated(1));
        });
        Check.test("promise 40 enumerate: a successful call that lists nothing replaces the list too", () -> {
            FamilyStore store = fiveSets();
            store.enumerate(0, 2000, 5);
            Check.same("kept", store.enumerate(0, -4, 5), 0);
            Check.refuses("first", Check.INDEX, () -> store.enumerated(0));
        });
    }

    private static void staysAfter(Class<?> exception, int family, int limit) {
        FamilyStore store = fiveSets();
        store.single(1);
        store.release(2);
        store.enumerate(0, 2, 300);
        Check.refuses("the later call", exception, () -> store.enumerate(family, 2000, limit));
        Check.same("first", store.enumerated(0), 2);
        Check.same("second", store.enumerated(1), 0);
        Check.same("third", store.enumerated(2), 3);
        Check.refuses("no fourth", Check.INDEX, () -> store.enumerated(3));
    }

    private static void enumerated() {
        String method = "promise 41 enumerated: ";
        Check.test(method + "no list is kept in a new store", () -> {
            FamilyStore store = new FamilyStore();
            Check.refuses("0", Check.INDEX, () -> store.enumerated(0));
            Check.refuses("-1", Check.INDEX, () -> store.enumerated(-1));
        });
        Check.test(method + "no list is kept after a first call that was refused", () -> {
            FamilyStore store = fiveSets();
            Check.refuses("enumerate", Check.ARGUMENT, () -> store.enumerate(0, 9, 0));
            Check.refuses("0", Check.INDEX, () -> store.enumerated(0));
        });
        Check.test(method + "an empty list", () -> {
            FamilyStore store = fiveSets();
            store.enumerate(1, 9, 9);
            Check.refuses("0", Check.INDEX, () -> store.enumerated(0));
        });
        Check.test(method + "the first and the last index", () -> {
            FamilyStore store = Scene.small().store;
            Check.same("0", store.enumerated(0), 0);
            Check.same("1", store.enumerated(1), 4);
        });
        for (int index : new int[] {-1, 2, 299, 300, Integer.MIN_VALUE, Integer.MAX_VALUE}) {
            Check.test(method + "there is no index " + index, () -> {
                Scene scene = Scene.small();
                scene.refuses("enumerated", Check.INDEX, () -> scene.store.enumerated(index));
            });
        }
    }

    private static long digestOf(int... numbers) {
        long d = 29;
        for (int x : numbers) {
            d = d * 31 + x;
        }
        return d;
    }

    private static void digest() {
        String method = "promise 42 digest: ";
        Check.test(method + "a new store, which wraps around already", () ->
            Check.same("digest", new FamilyStore().digest(), digestOf(0, 0, 0, 0, 0, 0, 0, 0, 0, 0, 0, 0, 0, 0)));
        Check.test(method + "the empty family and the empty set have no nodes", () ->
            Check.same("digest", Check.with("0", "1").digest(),
                    digestOf(2, 0, 0, 1, 0, 0, 0, 0, 0, 0, 0, 0, 0, 0, 0, 0, 0, 0)));
        Check.test(method + "a released family is one number, -1", () -> {
            FamilyStore store = Check.with("a", "ab + c", "b");
            store.release(0);
            Check.same("digest", store.digest(),
                    digestOf(3, -1, 2, 3, 1, 1, 3, 0, 0, 0, 0, 0, 0, 0, 0, 0, 0, 0, 0));
        });
        Check.test(method + "all families are released", () -> {
            FamilyStore store = Check.with("a", "ab + c");
            store.release(0);
            store.release(1);
            Check.same("digest", store.digest(), digestOf(2, -1, -1, 0, 0, 0, 0, 0, 0, 0, 0, 0, 0, 0, 0, 0));
        });
        Check.test(method + "the costs of the elements 0 to 11, negative ones too", () -> {
            FamilyStore store = new FamilyStore();
            for (int element = 0; element < 12; element++) {
                store.setCost(element, element % 2 == 0 ? -1000 + element : 1000 - element);
            }
            Check.same("digest", store.digest(), digestOf(0, 0, -1000, 999, -998, 997, -996, 995, -994, 993, -992,
                    991, -990, 989));
        });
        Check.test(method + "a full store", () -> {
            FamilyStore store = new FamilyStore();
            int[] numbers = new int[1 + 400 + 1 + 12];
            numbers[0] = 200;
            for (int f = 0; f < 200; f++) {
                store.single(2048);
                numbers[1 + 2 * f] = 1;
                numbers[2 + 2 * f] = 1;
            }
            numbers[401] = 1;
            Check.same("digest", store.digest(), digestOf(numbers));
        });
        Check.test(method + "asking changes nothing", () -> {
            Scene scene = Scene.small();
            scene.store.digest();
            scene.changedNothing("digest");
        });
    }
}
