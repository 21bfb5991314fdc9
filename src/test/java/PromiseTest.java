import java.util.NoSuchElementException;

/** The promises in their order, with answers worked out by hand: ordinary inputs, edges, wrong inputs. */
final class PromiseTest {
    private static final Class<?> STATE = IllegalStateException.class;
    private static final Class<?> ARGUMENT = IllegalArgumentException.class;
    private static final Class<?> INDEX = IndexOutOfBoundsException.class;
    private static final Class<?> MISSING = NoSuchElementException.class;
    private static final Class<?> ARITHMETIC = ArithmeticException.class;

    private static final String[] OF_TWO = {"union", "intersection", "difference", "join", "meet", "quotient",
        "remainder", "supersets", "subsets"};
    private static final String[] OF_ONE = {"maximal", "minimal", "hitting", "closure"};

    public static void main(String[] args) {
        newObject();
        feedAndTrim();
        evaluate();
        write();
        singleAndSubsetsOf();
        release();
        nodes();
        ofTwo();
        quotientAndRemainder();
        ofOne();
        changeAndWithCost();
        wrongOperands();
        fullStore();
        counting();
        comparing();
        setsByIndex();
        costs();
        enumerate();
        digest();
        Check.end("PromiseTest");
    }

    private static FamilyStore with(String... texts) {
        FamilyStore store = new FamilyStore();
        for (String text : texts) {
            Check.eval(store, text);
        }
        return store;
    }

    /** A store with 200 families: 0 is ab + c + 1, 1 is empty, 2 is released, all others have a alone. */
    private static FamilyStore full() {
        FamilyStore store = with("ab + c + 1", "0", "a");
        store.release(2);
        for (int i = 3; i < 200; i++) {
            store.single(1);
        }
        return store;
    }

    private static int apply(FamilyStore store, String operation, int f, int g) {
        switch (operation) {
            case "union": return store.union(f, g);
            case "intersection": return store.intersection(f, g);
            case "difference": return store.difference(f, g);
            case "join": return store.join(f, g);
            case "meet": return store.meet(f, g);
            case "quotient": return store.quotient(f, g);
            case "remainder": return store.remainder(f, g);
            case "supersets": return store.supersets(f, g);
            default: return store.subsets(f, g);
        }
    }

    private static int apply(FamilyStore store, String operation, int f) {
        switch (operation) {
            case "maximal": return store.maximal(f);
            case "minimal": return store.minimal(f);
            case "hitting": return store.hitting(f);
            default: return store.closure(f);
        }
    }

    private static void isResult(String operation, String f, String g, String due) {
        FamilyStore store = with(f, g);
        Check.same(operation + " number", apply(store, operation, 0, 1), 2);
        Check.same(operation + " of " + f + " and " + g, Check.written(store, 2), due);
        Check.same(operation + " leaves f", store.count(0), with(f).count(0));
        Check.same(operation + " leaves g", store.count(1), with(g).count(0));
    }

    private static void isResult(String operation, String f, String due) {
        FamilyStore store = with(f);
        Check.same(operation + " number", apply(store, operation, 0), 1);
        Check.same(operation + " of " + f, Check.written(store, 1), due);
        Check.same(operation + " leaves f", store.count(0), with(f).count(0));
    }

    // Promise 1
    private static void newObject() {
        FamilyStore store = new FamilyStore();
        Check.same("no families", store.createdCount(), 0);
        Check.same("no nodes", store.nodeCount(), 0);
        Check.same("no error", store.errorPosition(), -1);
        Check.same("no text", store.trim(0), 0);
        Check.refuses("text is empty", ARGUMENT, () -> store.trim(1));
        Check.refuses("output is empty", INDEX, () -> store.outputByte(0));
        Check.refuses("nothing enumerated", INDEX, () -> store.enumerated(0));
        Check.refuses("family 0", INDEX, () -> store.count(0));
        for (int element = 0; element < 12; element++) {
            Check.same("cost of " + element, store.setCost(element, 0), 0);
        }
        FamilyStore other = new FamilyStore();
        store.single(1);
        Check.same("stores do not touch each other", other.createdCount(), 0);
    }

    // Promises 2 and 3
    private static void feedAndTrim() {
        FamilyStore store = new FamilyStore();
        Check.same("feed", store.feed(0x612b622b, 0x632b642b, 0x652b662b, 0x672b682b, 0x692b6a6b), 20);
        Check.same("order of the bytes", store.evaluate(), 0);
        Check.same("what was fed", Check.written(store, 0), "a+b+c+d+e+f+g+h+i+jk");
        for (int i = 1; i <= 10; i++) {
            Check.same("feed " + i, store.feed(0, 0, 0, 0, 0), 20 * i);
        }
        Check.refuses("201 bytes", STATE, () -> store.feed(0, 0, 0, 0, 0));
        Check.same("trim all 200", store.trim(200), 200);
        Check.refuses("trim -1", ARGUMENT, () -> store.trim(-1));
        Check.refuses("trim 201", ARGUMENT, () -> store.trim(201));
        Check.refuses("trim least", ARGUMENT, () -> store.trim(Integer.MIN_VALUE));
        Check.same("trim 181", store.trim(181), 181);
        Check.refuses("trimmed bytes are gone", ARGUMENT, () -> store.trim(182));
        Check.refuses("still 181", STATE, () -> store.feed(0, 0, 0, 0, 0));
        Check.same("trim 180", store.trim(180), 180);
        Check.same("feed to 200", store.feed(0, 0, 0, 0, 0), 200);
        Check.same("trim 0", store.trim(0), 0);
        Check.same("feed again", store.feed(0x61626364, 0, 0, 0, 0), 20);
        Check.same("trim 4", store.trim(4), 4);
        Check.same("rest", store.evaluate(), 1);
        Check.same("abcd", Check.written(store, 1), "abcd");
    }

    // Promises 4 and 5; what texts mean and where they are wrong is in ExpressionTest
    private static void evaluate() {
        FamilyStore store = new FamilyStore();
        Check.same("first number", Check.eval(store, "ab"), 0);
        Check.refuses("the buffer is empty afterwards", ARGUMENT, () -> store.trim(1));
        Check.refuses("empty text", ARGUMENT, () -> store.evaluate());
        Check.same("its error", store.errorPosition(), 0);
        Check.same("only the result has a number", Check.eval(store, "max(a + b) * (c + d) - #0"), 1);
        Check.same("created", store.createdCount(), 2);
        Check.same("no error any more", store.errorPosition(), -1);
        Check.put(store, "a + $");
        Check.refuses("error", ARGUMENT, () -> store.evaluate());
        Check.same("error position", store.errorPosition(), 4);
        Check.refuses("the buffer is empty after an error", ARGUMENT, () -> store.trim(1));
        Check.same("nothing created", store.createdCount(), 2);
        Check.put(store, "a / (b - b)");
        Check.refuses("a / 0", ARITHMETIC, () -> store.evaluate());
        Check.same("no error in a / 0", store.errorPosition(), -1);
        Check.refuses("the buffer is empty after a / 0", ARGUMENT, () -> store.trim(1));
        Check.put(store, "a % 0");
        Check.refuses("a % 0", ARITHMETIC, () -> store.evaluate());
        Check.put(store, "a % 0 + )");
        Check.refuses("an error comes before a % 0", ARGUMENT, () -> store.evaluate());
        Check.same("0 / a", Check.eval(store, "0 / a"), 2);
        Check.same("nothing created by a % 0", store.createdCount(), 3);

        FamilyStore full = full();
        long before = full.digest();
        Check.put(full, "a +");
        Check.refuses("error in a full store", ARGUMENT, () -> full.evaluate());
        Check.same("its position", full.errorPosition(), 3);
        Check.put(full, "a / 0");
        Check.refuses("a / 0 in a full store", STATE, () -> full.evaluate());
        Check.same("no error in the text", full.errorPosition(), -1);
        Check.refuses("the buffer is empty in a full store", ARGUMENT, () -> full.trim(1));
        Check.same("nothing changed", full.digest(), before);
    }

    // Promises 6 and 7
    private static void write() {
        FamilyStore store = with("ba + 1 + lc + a", "0", "1");
        Check.same("output", Check.written(store, 0), "1+a+ab+cl");
        Check.refuses("byte -1", INDEX, () -> store.outputByte(-1));
        Check.refuses("byte 9", INDEX, () -> store.outputByte(9));
        Check.refuses("byte greatest", INDEX, () -> store.outputByte(Integer.MAX_VALUE));
        Check.same("last byte", store.outputByte(8), (int) 'l');
        Check.same("empty family", Check.written(store, 1), "0");
        Check.refuses("former output is replaced", INDEX, () -> store.outputByte(1));
        Check.same("empty set", Check.written(store, 2), "1");
        Check.refuses("write -1", INDEX, () -> store.write(-1));
        Check.refuses("write 3", INDEX, () -> store.write(3));
        store.release(1);
        Check.refuses("write released", MISSING, () -> store.write(1));
        Check.same("output is kept", store.outputByte(0), (int) '1');

        int big = store.subsetsOf(1023, 4);
        Check.refuses("210 sets of 4 have 1049 bytes", ARITHMETIC, () -> store.write(big));
        Check.same("output is kept after that", store.outputByte(0), (int) '1');
        Check.refuses("and no longer", INDEX, () -> store.outputByte(1));
        writeEdge();
    }

    private static void writeEdge() {
        FamilyStore edge = new FamilyStore();
        int part = edge.subsetsOf(1023, 4);
        Check.same("210 sets", edge.count(part), 210);
        Check.same("5 sets of 4", edge.count(edge.subsetsOf(31, 4)), 5);
        int less = edge.difference(part, 1);
        int five = edge.subsetsOf(992, 4);
        less = edge.difference(less, five);
        Check.same("200 sets of 4", edge.count(less), 200);
        Check.same("999 bytes", edge.write(less), 999);
        int more = edge.union(less, Check.eval(edge, "abcde"));
        Check.refuses("1005 bytes", ARITHMETIC, () -> edge.write(more));
        int thousand = edge.union(edge.difference(less, Check.eval(edge, "abcf")), Check.eval(edge, "abcde"));
        Check.same("1000 bytes", edge.write(thousand), 1000);
        Check.same("byte 999", edge.outputByte(999), (int) 'j');
        int beyond = edge.union(edge.difference(thousand, Check.eval(edge, "abcg")), Check.eval(edge, "abcdf"));
        Check.refuses("1001 bytes", ARITHMETIC, () -> edge.write(beyond));
        Check.same("byte 999 is kept", edge.outputByte(999), (int) 'j');
        int small = edge.union(edge.difference(less, Check.eval(edge, "abcf")), Check.eval(edge, "1 + a + b"));
        Check.same("1000 bytes with small sets", edge.write(small), 1000);
    }

    // Promises 8 and 9
    private static void singleAndSubsetsOf() {
        FamilyStore store = new FamilyStore();
        Check.same("single 0", store.single(0), 0);
        Check.same("it is 1", Check.written(store, 0), "1");
        Check.same("single 4095", store.single(4095), 1);
        Check.same("all letters", Check.written(store, 1), "abcdefghijkl");
        Check.same("single 2050", store.single(2050), 2);
        Check.same("bl", Check.written(store, 2), "bl");
        Check.refuses("single -1", ARGUMENT, () -> store.single(-1));
        Check.refuses("single 4096", ARGUMENT, () -> store.single(4096));
        Check.same("pairs", Check.written(store, store.subsetsOf(2054, 2)), "bc+bl+cl");
        Check.same("any size", Check.written(store, store.subsetsOf(2052, -1)), "1+c+l+cl");
        Check.same("size 0", Check.written(store, store.subsetsOf(2052, 0)), "1");
        Check.same("too great a size", Check.written(store, store.subsetsOf(2052, 3)), "0");
        Check.same("subsets of the empty set", Check.written(store, store.subsetsOf(0, -1)), "1");
        Check.same("all sets", store.count(store.subsetsOf(4095, -1)), 4096);
        Check.same("size 6 of 12", store.count(store.subsetsOf(4095, 6)), 924);
        Check.same("size 12", Check.written(store, store.subsetsOf(4095, 12)), "abcdefghijkl");
        Check.refuses("mask -1", ARGUMENT, () -> store.subsetsOf(-1, 0));
        Check.refuses("mask 4096", ARGUMENT, () -> store.subsetsOf(4096, 0));
        Check.refuses("size -2", ARGUMENT, () -> store.subsetsOf(1, -2));
        Check.refuses("size 13", ARGUMENT, () -> store.subsetsOf(1, 13));
        Check.same("created", store.createdCount(), 11);
    }

    // Promises 10 and 11
    private static void release() {
        FamilyStore store = with("a", "b", "c");
        Check.same("release 1", store.release(1), 2);
        Check.refuses("release 1 again", MISSING, () -> store.release(1));
        Check.refuses("release -1", INDEX, () -> store.release(-1));
        Check.refuses("release 3", INDEX, () -> store.release(3));
        Check.same("created stays", store.createdCount(), 3);
        Check.same("numbers go on", store.single(1), 3);
        Check.same("release 0", store.release(0), 2);
        Check.same("release 2", store.release(2), 1);
        Check.same("release 3 now", store.release(3), 0);
        Check.same("created at last", store.createdCount(), 4);
    }

    // Promises 12 and 13
    private static void nodes() {
        FamilyStore store = with("0", "1", "a", "a + b", "ab + bc + c", "b");
        Check.same("0 has no nodes", store.nodesOf(0), 0);
        Check.same("1 has no nodes", store.nodesOf(1), 0);
        Check.same("a", store.nodesOf(2), 1);
        Check.same("a + b", store.nodesOf(3), 2);
        // ab + bc + c; high: b; low: bc + c; its high: c, its low: c
        Check.same("ab + bc + c", store.nodesOf(4), 4);
        // a; a + b, b; ab + bc + c, bc + c, c; b is there already
        Check.same("together", store.nodeCount(), 6);
        store.release(3);
        Check.same("b is still used", store.nodeCount(), 5);
        store.release(4);
        Check.same("a and b", store.nodeCount(), 2);
        store.release(5);
        Check.same("a", store.nodeCount(), 1);
        store.release(2);
        Check.same("none", store.nodeCount(), 0);
        Check.eval(store, "a + b");
        Check.same("again", store.nodeCount(), 2);
        int all = store.subsetsOf(4095, -1);
        Check.same("all sets", store.nodesOf(all), 12);
        Check.same("all sets share b with none", store.nodeCount(), 14);
        Check.same("six of twelve", store.nodesOf(store.subsetsOf(4095, 6)), 42);
        Check.refuses("nodesOf -1", INDEX, () -> store.nodesOf(-1));
        Check.refuses("nodesOf unknown", INDEX, () -> store.nodesOf(store.createdCount()));
        Check.refuses("nodesOf released", MISSING, () -> store.nodesOf(2));
    }

    // Promises 14 to 18, 21, 22
    private static void ofTwo() {
        isResult("union", "a + bc", "bc + l + 1", "1+a+bc+l");
        isResult("union", "0", "0", "0");
        isResult("intersection", "a + bc + 1", "bc + l + 1", "1+bc");
        isResult("intersection", "a", "0", "0");
        isResult("difference", "a + bc + 1", "bc + l", "1+a");
        isResult("difference", "a", "0", "a");
        isResult("join", "a + bc", "b + d", "ab+bc+ad+bcd");
        isResult("join", "a + b", "1", "a+b");
        isResult("join", "a + b", "0", "0");
        isResult("join", "0", "a", "0");
        isResult("meet", "ab + bcl", "bl + c", "1+b+c+bl");
        isResult("meet", "ab", "1", "1");
        isResult("meet", "ab", "0", "0");
        isResult("supersets", "a + abc + cd + 1", "ab + cd", "abc+cd");
        isResult("supersets", "a + 1", "1", "1+a");
        isResult("supersets", "a + 1", "0", "0");
        isResult("subsets", "a + abc + cd + 1", "ab + cd", "1+a+cd");
        isResult("subsets", "a + 1", "1", "1");
        isResult("subsets", "a + 1", "0", "0");
        FamilyStore store = new FamilyStore();
        store.subsetsOf(4095, -1);
        store.subsetsOf(4095, 11);
        store.subsetsOf(4095, 1);
        Check.same("join of great families", store.count(store.join(0, 1)), 13);
        Check.same("meet of great families", store.count(store.meet(0, 2)), 13);
        Check.same("join with itself", store.count(store.join(1, 1)), 13);
        Check.same("meet with itself", store.count(store.meet(0, 0)), 4096);
    }

    // Promises 19 and 20
    private static void quotientAndRemainder() {
        isResult("quotient", "ab + ac + d", "b + c", "a");
        isResult("remainder", "ab + ac + d", "b + c", "d");
        isResult("quotient", "ab + ac + bd + cd + e", "b + c", "a+d");
        isResult("remainder", "ab + ac + bd + cd + e", "b + c", "e");
        // The quotient's sets share no element with the divisor's, though abc is the union of b and abc.
        isResult("quotient", "abc + b", "b", "1+ac");
        isResult("quotient", "ab + b", "ab", "1");
        isResult("quotient", "a + bl + 1", "1", "1+a+bl");
        isResult("remainder", "a + bl + 1", "1", "0");
        isResult("quotient", "0", "a", "0");
        isResult("remainder", "0", "a", "0");
        isResult("quotient", "a + b", "c", "0");
        isResult("remainder", "a + b", "c", "a+b");
        isResult("quotient", "a + b", "a + b", "1");
        FamilyStore store = with("ab", "0", "c");
        store.release(2);
        long before = store.digest();
        for (String operation : new String[] {"quotient", "remainder"}) {
            Check.refuses(operation + " by 0", ARITHMETIC, () -> apply(store, operation, 0, 1));
            Check.refuses(operation + " of 0 by 0", ARITHMETIC, () -> apply(store, operation, 1, 1));
            Check.refuses(operation + " of released by 0", MISSING, () -> apply(store, operation, 2, 1));
            Check.refuses(operation + " of unknown by 0", INDEX, () -> apply(store, operation, 3, 1));
        }
        Check.same("nothing created", store.digest(), before);
    }

    // Promises 23 to 26
    private static void ofOne() {
        isResult("maximal", "a + ab + bl + l + 1", "ab+bl");
        isResult("maximal", "1", "1");
        isResult("maximal", "0", "0");
        isResult("minimal", "a + ab + bl + cbl", "a+bl");
        isResult("minimal", "a + 1", "1");
        isResult("minimal", "0", "0");
        isResult("hitting", "ab + bc + c", "ac+bc");
        isResult("hitting", "a + l", "al");
        isResult("hitting", "0", "1");
        isResult("hitting", "1", "0");
        isResult("hitting", "a + 1", "0");
        isResult("closure", "ab + l", "1+a+b+ab+l");
        isResult("closure", "1", "1");
        isResult("closure", "0", "0");
    }

    // Promises 27 and 28
    private static void changeAndWithCost() {
        FamilyStore store = with("ab + b + 1", "0");
        Check.same("change a", Check.written(store, store.change(0, 0)), "a+b+ab");
        Check.same("change l", Check.written(store, store.change(0, 11)), "l+bl+abl");
        Check.same("change g", Check.written(store, store.change(0, 6)), "g+bg+abg");
        Check.same("change f", Check.written(store, store.change(0, 5)), "f+bf+abf");
        Check.same("back again", store.areEqual(0, store.change(3, 11)), true);
        Check.same("change of nothing", Check.written(store, store.change(1, 3)), "0");
        store.release(1);
        Check.refuses("element -1", INDEX, () -> store.change(0, -1));
        Check.refuses("element 12", INDEX, () -> store.change(0, 12));
        Check.refuses("element 12 of released", INDEX, () -> store.change(1, 12));
        Check.refuses("released", MISSING, () -> store.change(1, 0));

        FamilyStore costs = with("1 + a + b + ab + l", "0");
        costs.setCost(0, 5);
        costs.setCost(1, -7);
        costs.setCost(11, 1000);
        Check.same("both ends belong", Check.written(costs, costs.withCost(0, -2, 5)), "1+a+ab");
        Check.same("one cost", Check.written(costs, costs.withCost(0, -7, -7)), "b");
        Check.same("low above high", Check.written(costs, costs.withCost(0, 5, -2)), "0");
        Check.same("all", costs.count(costs.withCost(0, Integer.MIN_VALUE, Integer.MAX_VALUE)), 5);
        Check.same("of nothing", Check.written(costs, costs.withCost(1, -1, 1)), "0");
        int kept = costs.withCost(0, 1000, 1000);
        costs.setCost(11, 0);
        Check.same("a family never changes", Check.written(costs, kept), "l");
    }

    private static void wrongOperands() {
        FamilyStore store = with("ab + c", "a");
        store.release(1);
        long before = store.digest();
        for (String operation : OF_TWO) {
            for (int wrong : new int[] {-1, 2, 200, Integer.MIN_VALUE, Integer.MAX_VALUE}) {
                Check.refuses(operation + " f " + wrong, INDEX, () -> apply(store, operation, wrong, 0));
                Check.refuses(operation + " g " + wrong, INDEX, () -> apply(store, operation, 0, wrong));
                Check.refuses(operation + " released, " + wrong, INDEX, () -> apply(store, operation, 1, wrong));
                Check.refuses(operation + " " + wrong + ", released", INDEX, () -> apply(store, operation, wrong, 1));
            }
            Check.refuses(operation + " f released", MISSING, () -> apply(store, operation, 1, 0));
            Check.refuses(operation + " g released", MISSING, () -> apply(store, operation, 0, 1));
        }
        for (String operation : OF_ONE) {
            Check.refuses(operation + " -1", INDEX, () -> apply(store, operation, -1));
            Check.refuses(operation + " 2", INDEX, () -> apply(store, operation, 2));
            Check.refuses(operation + " released", MISSING, () -> apply(store, operation, 1));
        }
        Check.refuses("change -1", INDEX, () -> store.change(-1, 0));
        Check.refuses("change 2", INDEX, () -> store.change(2, 0));
        Check.refuses("withCost -1", INDEX, () -> store.withCost(-1, 0, 0));
        Check.refuses("withCost 2", INDEX, () -> store.withCost(2, 0, 0));
        Check.refuses("withCost released", MISSING, () -> store.withCost(1, 0, 0));
        Check.same("nothing changed", store.digest(), before);
    }

    private static void fullStore() {
        FamilyStore store = full();
        Check.same("200 families", store.createdCount(), 200);
        long before = store.digest();
        for (String operation : OF_TWO) {
            Check.refuses(operation + " when full", STATE, () -> apply(store, operation, 0, 0));
            Check.refuses(operation + " by 0 when full", STATE, () -> apply(store, operation, 0, 1));
            Check.refuses(operation + " of released when full", MISSING, () -> apply(store, operation, 0, 2));
            Check.refuses(operation + " of unknown when full", INDEX, () -> apply(store, operation, 2, 200));
        }
        for (String operation : OF_ONE) {
            Check.refuses(operation + " when full", STATE, () -> apply(store, operation, 0));
            Check.refuses(operation + " of released when full", MISSING, () -> apply(store, operation, 2));
            Check.refuses(operation + " of unknown when full", INDEX, () -> apply(store, operation, 200));
        }
        Check.refuses("single when full", STATE, () -> store.single(1));
        Check.refuses("single -1 when full", ARGUMENT, () -> store.single(-1));
        Check.refuses("subsetsOf when full", STATE, () -> store.subsetsOf(1, 1));
        Check.refuses("subsetsOf size 13 when full", ARGUMENT, () -> store.subsetsOf(1, 13));
        Check.refuses("change when full", STATE, () -> store.change(0, 0));
        Check.refuses("change of released when full", MISSING, () -> store.change(2, 0));
        Check.refuses("change of element 12 when full", INDEX, () -> store.change(0, 12));
        Check.refuses("withCost when full", STATE, () -> store.withCost(0, 0, 0));
        Check.refuses("withCost of released when full", MISSING, () -> store.withCost(2, 0, 0));
        Check.same("nothing changed", store.digest(), before);
        store.release(199);
        Check.refuses("a release makes no room", STATE, () -> store.single(1));
        Check.same("count of the last", store.count(198), 1);
    }

    // Promises 29 to 32
    private static void counting() {
        FamilyStore store = with("1 + a + ab + bcl + l", "0", "a");
        store.release(2);
        Check.same("count", store.count(0), 5);
        Check.same("count of nothing", store.count(1), 0);
        Check.same("size 0", store.countOfSize(0, 0), 1);
        Check.same("size 1", store.countOfSize(0, 1), 2);
        Check.same("size 3", store.countOfSize(0, 3), 1);
        Check.same("size 4", store.countOfSize(0, 4), 0);
        Check.same("size -1", store.countOfSize(0, -1), 0);
        Check.same("size 33", store.countOfSize(0, 33), 0);
        Check.same("with a", store.countWith(0, 0), 2);
        Check.same("with l", store.countWith(0, 11), 2);
        Check.same("with d", store.countWith(0, 3), 0);
        Check.refuses("with -1", INDEX, () -> store.countWith(0, -1));
        Check.refuses("with 12", INDEX, () -> store.countWith(0, 12));
        Check.refuses("with 12 of released", INDEX, () -> store.countWith(2, 12));
        Check.same("contains 1", store.contains(0, 0), true);
        Check.same("contains bcl", store.contains(0, 2054), true);
        Check.same("contains b", store.contains(0, 2), false);
        for (int mask : new int[] {-1, 4096, 4097, -4096, 65536, Integer.MIN_VALUE, Integer.MAX_VALUE}) {
            Check.same("contains " + mask, store.contains(0, mask), false);
        }
        Check.refuses("count -1", INDEX, () -> store.count(-1));
        Check.refuses("count 3", INDEX, () -> store.count(3));
        Check.refuses("count released", MISSING, () -> store.count(2));
        Check.refuses("countOfSize -1", INDEX, () -> store.countOfSize(-1, 0));
        Check.refuses("countOfSize 3", INDEX, () -> store.countOfSize(3, 0));
        Check.refuses("countOfSize released", MISSING, () -> store.countOfSize(2, 0));
        Check.refuses("countWith -1", INDEX, () -> store.countWith(-1, 0));
        Check.refuses("countWith 3", INDEX, () -> store.countWith(3, 0));
        Check.refuses("countWith released", MISSING, () -> store.countWith(2, 0));
        Check.refuses("contains in -1", INDEX, () -> store.contains(-1, 0));
        Check.refuses("contains in 3", INDEX, () -> store.contains(3, -1));
        Check.refuses("contains in released", MISSING, () -> store.contains(2, -1));
    }

    // Promises 33 and 34
    private static void comparing() {
        FamilyStore store = with("a + bl", "bl + a", "a", "b", "0", "a", "1");
        store.release(5);
        Check.same("equal", store.areEqual(0, 1), true);
        Check.same("equal to itself", store.areEqual(0, 0), true);
        Check.same("not equal", store.areEqual(0, 2), false);
        Check.same("not equal either", store.areEqual(2, 0), false);
        Check.same("same size, not equal", store.areEqual(2, 3), false);
        Check.same("0 and 1", store.areEqual(4, 6), false);
        Check.same("part", store.isPartOf(2, 0), true);
        Check.same("no part", store.isPartOf(0, 2), false);
        Check.same("part of itself", store.isPartOf(0, 1), true);
        Check.same("0 is part of all", store.isPartOf(4, 2), true);
        Check.same("0 is part of 0", store.isPartOf(4, 4), true);
        Check.same("no part of 0", store.isPartOf(6, 4), false);
        Check.same("nothing in common", store.isPartOf(2, 3), false);
        for (int wrong : new int[] {-1, 7, 200}) {
            Check.refuses("areEqual f " + wrong, INDEX, () -> store.areEqual(wrong, 5));
            Check.refuses("areEqual g " + wrong, INDEX, () -> store.areEqual(5, wrong));
            Check.refuses("isPartOf f " + wrong, INDEX, () -> store.isPartOf(wrong, 5));
            Check.refuses("isPartOf g " + wrong, INDEX, () -> store.isPartOf(5, wrong));
        }
        Check.refuses("areEqual f released", MISSING, () -> store.areEqual(5, 0));
        Check.refuses("areEqual g released", MISSING, () -> store.areEqual(0, 5));
        Check.refuses("isPartOf f released", MISSING, () -> store.isPartOf(5, 0));
        Check.refuses("isPartOf g released", MISSING, () -> store.isPartOf(0, 5));
    }

    // Promises 35 and 36
    private static void setsByIndex() {
        FamilyStore store = with("abl + g + 1 + fa", "0", "a");
        store.release(2);
        int[] masks = {0, 33, 64, 2051};
        for (int i = 0; i < 4; i++) {
            Check.same("set at " + i, store.setAt(0, i), masks[i]);
            Check.same("index of " + masks[i], store.indexOf(0, masks[i]), i);
        }
        Check.refuses("set at -1", MISSING, () -> store.setAt(0, -1));
        Check.refuses("set at 4", MISSING, () -> store.setAt(0, 4));
        Check.refuses("set at greatest", MISSING, () -> store.setAt(0, Integer.MAX_VALUE));
        Check.refuses("set of 0", MISSING, () -> store.setAt(1, 0));
        Check.refuses("set of released", MISSING, () -> store.setAt(2, 0));
        Check.refuses("set of -1", INDEX, () -> store.setAt(-1, 0));
        Check.refuses("set of 3", INDEX, () -> store.setAt(3, 9));
        for (int mask : new int[] {1, 4095, -1, 4096, 4096 + 33, Integer.MIN_VALUE, Integer.MAX_VALUE}) {
            Check.same("index of " + mask, store.indexOf(0, mask), -1);
        }
        Check.same("index in 0", store.indexOf(1, 0), -1);
        Check.refuses("index in released", MISSING, () -> store.indexOf(2, 1));
        Check.refuses("index in -1", INDEX, () -> store.indexOf(-1, 1));
        Check.refuses("index in 3", INDEX, () -> store.indexOf(3, -1));
        int all = store.subsetsOf(4095, -1);
        Check.same("last of all", store.setAt(all, 4095), 4095);
        Check.same("index of the last", store.indexOf(all, 4095), 4095);
        Check.refuses("behind the last", MISSING, () -> store.setAt(all, 4096));
    }

    // Promises 37 to 39
    private static void costs() {
        FamilyStore store = with("a + bl + gl", "0", "1", "a");
        store.release(3);
        Check.same("cost before", store.setCost(0, 1000), 0);
        Check.same("then", store.setCost(0, -1000), 1000);
        Check.same("and then", store.setCost(0, 7), -1000);
        Check.refuses("element -1", INDEX, () -> store.setCost(-1, 0));
        Check.refuses("element 12", INDEX, () -> store.setCost(12, 5000));
        Check.refuses("cost 1001", ARGUMENT, () -> store.setCost(0, 1001));
        Check.refuses("cost -1001", ARGUMENT, () -> store.setCost(0, -1001));
        Check.refuses("cost least", ARGUMENT, () -> store.setCost(0, Integer.MIN_VALUE));
        Check.same("cost is kept", store.setCost(0, 7), 7);
        store.setCost(1, 3);
        store.setCost(11, 2);
        store.setCost(6, -40);
        Check.same("least", store.leastCost(0), -38);
        Check.same("mean", store.meanCost(0), -26.0 / 3);
        Check.same("least of 1", store.leastCost(2), 0);
        Check.same("mean of 1", store.meanCost(2), 0.0);
        Check.refuses("least of 0", MISSING, () -> store.leastCost(1));
        Check.refuses("mean of 0", MISSING, () -> store.meanCost(1));
        Check.refuses("least of released", MISSING, () -> store.leastCost(3));
        Check.refuses("mean of released", MISSING, () -> store.meanCost(3));
        for (int wrong : new int[] {-1, 4}) {
            Check.refuses("least of " + wrong, INDEX, () -> store.leastCost(wrong));
            Check.refuses("mean of " + wrong, INDEX, () -> store.meanCost(wrong));
        }
        int all = store.single(4095);
        for (int element = 0; element < 12; element++) {
            store.setCost(element, 1000);
        }
        Check.same("greatest cost", store.leastCost(all), 12000);
        Check.same("greatest mean", store.meanCost(all), 12000.0);
        for (int element = 0; element < 12; element++) {
            store.setCost(element, -1000);
        }
        Check.same("least cost", store.leastCost(all), -12000);
    }

    // Promises 40 and 41
    private static void enumerate() {
        FamilyStore store = new FamilyStore();
        store.subsetsOf(7, 2);
        store.setCost(0, 5);
        store.setCost(1, 2);
        Check.same("example 3", store.enumerate(0, 10, 2), 2);
        Check.same("example 3, first", store.enumerated(0), 6);
        Check.same("example 3, second", store.enumerated(1), 5);
        Check.refuses("index 2", INDEX, () -> store.enumerated(2));
        Check.refuses("index -1", INDEX, () -> store.enumerated(-1));
        Check.same("the bound belongs", store.enumerate(0, 5, 300), 2);
        Check.same("below the bound", store.enumerate(0, 4, 300), 1);
        store.single(0);
        store.release(1);
        Check.refuses("limit 0", ARGUMENT, () -> store.enumerate(0, 9, 0));
        Check.refuses("limit 301", ARGUMENT, () -> store.enumerate(0, 9, 301));
        Check.refuses("released, limit 0", MISSING, () -> store.enumerate(1, 9, 0));
        Check.refuses("unknown, limit 0", INDEX, () -> store.enumerate(2, 9, 0));
        Check.refuses("family -1", INDEX, () -> store.enumerate(-1, 9, 1));
        Check.same("the list is kept", store.enumerated(0), 6);
        Check.same("other calls keep it", store.single(1), 2);
        Check.same("still there", store.enumerated(0), 6);
        Check.same("none", store.enumerate(0, 1, 300), 0);
        Check.refuses("the list is empty", INDEX, () -> store.enumerated(0));

        store.subsetsOf(4095, -1);
        for (int element = 0; element < 12; element++) {
            store.setCost(element, 0);
        }
        Check.same("300 of 4096", store.enumerate(3, Integer.MAX_VALUE, 300), 300);
        for (int i = 0; i < 300; i++) {
            Check.same("equal costs " + i, store.enumerated(i), i);
        }
        Check.refuses("index 300", INDEX, () -> store.enumerated(300));
        store.setCost(11, -1000);
        store.setCost(10, -1000);
        Check.same("bound least", store.enumerate(3, Integer.MIN_VALUE, 300), 0);
        Check.same("cheapest", store.enumerate(3, -1000, 1), 1);
        Check.same("kl", store.enumerated(0), 3072);
        int family = Check.eval(store, "1 + a + k + l + kl");
        Check.same("all of five", store.enumerate(family, 0, 5), 5);
        int[] due = {3072, 1024, 2048, 0, 1};
        for (int i = 0; i < 5; i++) {
            Check.same("in order " + i, store.enumerated(i), due[i]);
        }
        store.setCost(11, 1000);
        store.release(family);
        Check.same("the list stays as it was", store.enumerated(2), 2048);
    }

    // Promise 42
    private static void digest() {
        FamilyStore store = new FamilyStore();
        Check.same("empty", store.digest(), digestOf(0, 0, 0, 0, 0, 0, 0, 0, 0, 0, 0, 0, 0, 0));
        Check.eval(store, "ab + bc + c");
        Check.eval(store, "a");
        Check.eval(store, "1");
        store.release(1);
        store.setCost(0, -5);
        store.setCost(11, 9);
        Check.same("digest", store.digest(), digestOf(3, 3, 4, -1, 1, 0, 4, -5, 0, 0, 0, 0, 0, 0, 0, 0, 0, 0, 9));
    }

    private static long digestOf(int... numbers) {
        long d = 29;
        for (int x : numbers) {
            d = d * 31 + x;
        }
        return d;
    }
}
