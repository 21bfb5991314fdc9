/** The edges of what the description says of sets, families, diagrams and costs, beside the single methods. */
final class DescriptionEdges {
    private DescriptionEdges() {
    }

    interface Make {
        int number(FamilyStore store);
    }

    private static final String[] NAMES = {"evaluate", "single", "subsetsOf", "union", "intersection", "difference",
        "join", "meet", "quotient", "remainder", "supersets", "subsets", "maximal", "minimal", "hitting", "closure",
        "change", "withCost"};

    /** The methods that make families, in the order of their names; each with 0 and 1, which are not empty. */
    private static final Make[] MAKERS = {
        store -> Check.eval(store, "#0 * #1"), store -> store.single(5), store -> store.subsetsOf(7, 2),
        store -> store.union(0, 1), store -> store.intersection(0, 1), store -> store.difference(0, 1),
        store -> store.join(0, 1), store -> store.meet(0, 1), store -> store.quotient(0, 1),
        store -> store.remainder(0, 1), store -> store.supersets(0, 1), store -> store.subsets(0, 1),
        store -> store.maximal(0), store -> store.minimal(0), store -> store.hitting(0), store -> store.closure(0),
        store -> store.change(0, 3), store -> store.withCost(0, 0, 0)
    };

    static void run() {
        sets();
        numbers();
        familiesNeverChange();
        released();
        diagrams();
        calls();
    }

    private static void sets() {
        for (int element = 0; element < 12; element++) {
            int mask = 1 << element;
            String letter = String.valueOf((char) ('a' + element));
            Check.test("description sets: the element " + element + " is the letter " + letter, () -> {
                FamilyStore store = Check.with(letter);
                Check.same("mask", store.setAt(0, 0), mask);
                Check.same("written", Check.written(store, store.single(mask)), letter);
            });
        }
        Check.test("description sets: a mask is the sum of the powers of its elements", () ->
            Check.same("acl", Check.with("acl").setAt(0, 0), 1 + 4 + 2048));
        Check.test("description families: a family can be empty", () -> {
            FamilyStore store = Check.with("0");
            Check.same("sets", store.count(0), 0);
            Check.same("it is a family all the same", store.release(0), 0);
        });
        Check.test("description families: a family can contain the empty set", () -> {
            FamilyStore store = Check.with("1", "1 + a");
            Check.same("alone", store.contains(0, 0), true);
            Check.same("beside others", store.contains(1, 0), true);
            Check.same("it is not empty", store.areEqual(0, store.difference(0, 0)), false);
        });
    }

    private static FamilyStore twoFamilies() {
        return Check.with("ab + bc + c + 1", "b + 1");
    }

    private static void numbers() {
        for (int i = 0; i < MAKERS.length; i++) {
            Make make = MAKERS[i];
            Check.test("description families: " + NAMES[i] + " numbers them in the order of creation", () -> {
                FamilyStore store = twoFamilies();
                Check.same("number", make.number(store), 2);
                Check.same("next number", make.number(store), 3);
                Check.same("created", store.createdCount(), 4);
                store.release(3);
                store.release(2);
                Check.same("released numbers do not come again", make.number(store), 4);
            });
        }
        Check.test("description families: calls that are refused take no number", () -> {
            FamilyStore store = Check.with("a");
            Check.refuses("single", Check.ARGUMENT, () -> store.single(-1));
            Check.refuses("union", Check.INDEX, () -> store.union(0, 1));
            Check.put(store, "a +");
            Check.refuses("evaluate", Check.ARGUMENT, () -> store.evaluate());
            Check.same("number", store.single(1), 1);
        });
        Check.test("description families: the 200th has the number 199, and there is no 201st", () -> {
            FamilyStore store = new FamilyStore();
            for (int f = 0; f < 200; f++) {
                Check.same("number", store.single(f), f);
            }
            Check.refuses("the 201st", Check.STATE, () -> store.single(0));
            for (int f = 0; f < 200; f += 199) {
                Check.same("set of " + f, store.setAt(f, 0), f);
            }
        });
        Check.test("description families: 200 that were all released are 200 that were created", () -> {
            FamilyStore store = new FamilyStore();
            for (int f = 0; f < 200; f++) {
                store.single(f);
                store.release(f);
            }
            Check.refuses("the 201st", Check.STATE, () -> store.single(0));
        });
    }

    private static void familiesNeverChange() {
        for (int i = 0; i < MAKERS.length; i++) {
            Make make = MAKERS[i];
            Check.test("description families: " + NAMES[i] + " changes neither family nor result of others", () -> {
                FamilyStore store = twoFamilies();
                int made = make.number(store);
                String result = Check.written(store, made);
                for (Make other : MAKERS) {
                    other.number(store);
                }
                Check.same("family 0", Check.written(store, 0), "1+ab+c+bc");
                Check.same("family 1", Check.written(store, 1), "1+b");
                store.release(0);
                store.release(1);
                Check.same("the result", Check.written(store, made), result);
            });
        }
    }

    private static void released() {
        Check.test("description families: an equal family is not released with another", () -> {
            FamilyStore store = Check.with("ab", "#0");
            store.release(0);
            Check.same("sets", Check.written(store, 1), "ab");
        });
        Check.test("description families: the number of a released family is no family in texts", () -> {
            FamilyStore store = Check.with("ab");
            store.release(0);
            Check.put(store, "#0");
            Check.refuses("evaluate", Check.ARGUMENT, () -> store.evaluate());
            Check.same("position", store.errorPosition(), 1);
        });
    }

    private static void nodes(String name, int due, String... texts) {
        Check.test("description diagrams: " + name, () -> Check.same("nodes", Check.with(texts).nodeCount(), due));
    }

    private static void diagrams() {
        nodes("the empty family has no top and is no node", 0, "0");
        nodes("the empty set alone has no top and is no node", 0, "1");
        nodes("the top is the smallest element that belongs to a set", 4, "ab + b + c");
        nodes("the high part is without the top", 2, "ab", "b");
        nodes("the low part is the sets without the top", 2, "a + b", "b");
        nodes("parts that are empty or the empty set alone are no nodes", 1, "1 + a", "1", "0");
        nodes("the same family counts only once in a diagram", 3, "ac + bc + c");
        nodes("with and without the empty set are two families", 2, "a", "1 + a");
    }

    private static void calls() {
        Check.test("description use: the 512th call is answered like the first", () -> {
            FamilyStore store = new FamilyStore();
            for (int f = 0; f < 200; f++) {
                store.single(f);
            }
            for (int f = 0; f < 200; f++) {
                store.setCost(f % 12, f);
            }
            for (int i = 0; i < 110; i++) {
                store.enumerate(i, 1000, 300);
            }
            Check.same("511th", store.createdCount(), 200);
            Check.same("512th", store.leastCost(199), costOf199());
        });
    }

    /** The elements have the latest of the costs 0 to 199 that were given to them in turn; 199 is abcgh. */
    private static int costOf199() {
        return 192 + 193 + 194 + 198 + 199;
    }
}
