import java.util.ArrayList;
import java.util.BitSet;
import java.util.HashSet;
import java.util.List;
import java.util.NoSuchElementException;
import java.util.Set;

/**
 * The document, word for word and without any care for speed: a family is a boolean for each mask. The
 * random runs ask it and the store the same.
 */
public final class Model {
    private final List<Integer> text = new ArrayList<>();
    private final List<boolean[]> families = new ArrayList<>();
    private final List<Set<BitSet>> diagrams = new ArrayList<>();
    private final int[] costs = new int[12];
    private int errorAt = -1;
    private String output = "";
    private List<Integer> listed = new ArrayList<>();

    public int feed(int a, int b, int c, int d, int e) {
        if (text.size() + 20 > 200) {
            throw new IllegalStateException();
        }
        for (int word : new int[] {a, b, c, d, e}) {
            for (int i = 0; i < 4; i++) {
                text.add(word >>> (24 - 8 * i) & 255);
            }
        }
        return text.size();
    }

    public int trim(int n) {
        if (n < 0 || n > text.size()) {
            throw new IllegalArgumentException();
        }
        while (text.size() > n) {
            text.remove(text.size() - 1);
        }
        return n;
    }

    // ---- expressions: an automaton that knows what may come next, and two stacks

    private record Token(String word, int at) {
    }

    private List<Token> tokens() {
        List<Token> all = new ArrayList<>();
        StringBuilder signs = new StringBuilder();
        for (int sign : text) {
            signs.append((char) sign);
        }
        java.util.regex.Matcher m = java.util.regex.Pattern.compile("(?s)[a-z]+|[0-9]+|[^ ]").matcher(signs);
        while (m.find()) {
            all.add(new Token(m.group(), m.start()));
        }
        return all;
    }

    private static boolean isSet(String word) {
        return word.matches("[a-l]+") && word.chars().distinct().count() == word.length();
    }

    private int findError(List<Token> tokens) {
        String awaited = "factor";
        int open = 0;
        for (Token token : tokens) {
            String word = token.word();
            switch (awaited) {
                case "factor":
                    if (word.equals("(")) {
                        if (open == 20) {
                            return token.at();
                        }
                        open++;
                    } else if (word.matches("max|min|hit|sub")) {
                        awaited = "bracket";
                    } else if (word.equals("#")) {
                        awaited = "number";
                    } else if (isSet(word) || word.equals("0") || word.equals("1")) {
                        awaited = "operator";
                    } else {
                        return token.at();
                    }
                    break;
                case "bracket":
                    if (!word.equals("(") || open == 20) {
                        return token.at();
                    }
                    open++;
                    awaited = "factor";
                    break;
                case "number":
                    if (!word.matches("[0-9]{1,9}") || !isLive(Integer.parseInt(word))) {
                        return token.at();
                    }
                    awaited = "operator";
                    break;
                default:
                    if (word.equals(")") && open > 0) {
                        open--;
                    } else if (word.matches("[-+&*/%]")) {
                        awaited = "factor";
                    } else {
                        return token.at();
                    }
                    break;
            }
        }
        return awaited.equals("operator") && open == 0 ? -1 : text.size();
    }

    private boolean isLive(int f) {
        return f < families.size() && families.get(f) != null;
    }

    public int evaluate() {
        List<Token> tokens = tokens();
        errorAt = findError(tokens);
        text.clear();
        if (errorAt >= 0) {
            throw new IllegalArgumentException();
        }
        checkRoom();
        return add(value(tokens));
    }

    private static int rank(String operator) {
        return "+-&".contains(operator) ? 1 : "*/%".contains(operator) ? 2 : 0;
    }

    private boolean[] value(List<Token> tokens) {
        List<boolean[]> values = new ArrayList<>();
        List<String> waiting = new ArrayList<>();
        boolean number = false;
        for (Token token : tokens) {
            String word = token.word();
            if (number) {
                values.add(families.get(Integer.parseInt(word)));
                number = false;
            } else if (word.equals("#")) {
                number = true;
            } else if (word.equals("(") || word.matches("max|min|hit|sub")) {
                waiting.add(word);
            } else if (word.equals(")")) {
                while (!waiting.get(waiting.size() - 1).equals("(")) {
                    carryOut(values, waiting.remove(waiting.size() - 1));
                }
                waiting.remove(waiting.size() - 1);
                if (!waiting.isEmpty() && waiting.get(waiting.size() - 1).length() == 3) {
                    carryOut(values, waiting.remove(waiting.size() - 1));
                }
            } else if (rank(word) > 0) {
                while (!waiting.isEmpty() && rank(waiting.get(waiting.size() - 1)) >= rank(word)) {
                    carryOut(values, waiting.remove(waiting.size() - 1));
                }
                waiting.add(word);
            } else {
                values.add(constant(word));
            }
        }
        while (!waiting.isEmpty()) {
            carryOut(values, waiting.remove(waiting.size() - 1));
        }
        return values.get(0);
    }

    private static boolean[] constant(String word) {
        boolean[] family = new boolean[4096];
        if (!word.equals("0")) {
            int mask = 0;
            for (char letter : word.equals("1") ? new char[0] : word.toCharArray()) {
                mask += 1 << letter - 'a';
            }
            family[mask] = true;
        }
        return family;
    }

    private void carryOut(List<boolean[]> values, String word) {
        boolean[] right = values.remove(values.size() - 1);
        if (word.length() == 3) {
            values.add(ofOne(word, right));
        } else {
            values.add(ofTwo(word, values.remove(values.size() - 1), right));
        }
    }

    // ---- the algebra

    private static boolean[] ofOne(String operation, boolean[] f) {
        boolean[] result = new boolean[4096];
        if (operation.equals("hit")) {
            int[] sets = masks(f);
            for (int h = 0; h < 4096; h++) {
                result[h] = true;
                for (int set : sets) {
                    result[h] &= (set & h) != 0;
                }
            }
            return ofOne("min", result);
        }
        int[] sets = masks(f);
        for (int s = 0; s < 4096; s++) {
            boolean below = false;
            boolean above = false;
            boolean inside = false;
            for (int t : sets) {
                below |= s != t && (s & t) == s;
                above |= s != t && (s & t) == t;
                inside |= (s & t) == s;
            }
            result[s] = operation.equals("max") ? f[s] && !below
                    : operation.equals("min") ? f[s] && !above : inside;
        }
        return result;
    }

    private static boolean[] ofTwo(String operation, boolean[] f, boolean[] g) {
        int[] left = masks(f);
        int[] right = masks(g);
        boolean[] result = new boolean[4096];
        if (operation.equals("/") || operation.equals("%")) {
            if (right.length == 0) {
                throw new ArithmeticException();
            }
            for (int c = 0; c < 4096; c++) {
                result[c] = true;
                for (int b : right) {
                    result[c] &= (c & b) == 0 && f[c | b];
                }
            }
            return operation.equals("/") ? result : ofTwo("-", f, ofTwo("*", g, result));
        }
        if (operation.equals("*") || operation.equals("meet")) {
            for (int a : left) {
                for (int b : right) {
                    result[operation.equals("*") ? a | b : a & b] = true;
                }
            }
            return result;
        }
        for (int s = 0; s < 4096; s++) {
            boolean above = false;
            boolean below = false;
            for (int b : right) {
                above |= (s & b) == b;
                below |= (s & b) == s;
            }
            switch (operation) {
                case "+": result[s] = f[s] || g[s]; break;
                case "-": result[s] = f[s] && !g[s]; break;
                case "&": result[s] = f[s] && g[s]; break;
                case "supersets": result[s] = f[s] && above; break;
                default: result[s] = f[s] && below; break;
            }
        }
        return result;
    }

    private static int[] masks(boolean[] family) {
        return java.util.stream.IntStream.range(0, 4096).filter(m -> family[m]).toArray();
    }

    // ---- families

    private void checkRoom() {
        if (families.size() == 200) {
            throw new IllegalStateException();
        }
    }

    private void checkCreated(int f) {
        if (f < 0 || f >= families.size()) {
            throw new IndexOutOfBoundsException();
        }
    }

    private boolean[] get(int f) {
        checkCreated(f);
        if (families.get(f) == null) {
            throw new NoSuchElementException();
        }
        return families.get(f);
    }

    /** For the random runs, which like families with sets better. */
    boolean isDull(int f) {
        return !isLive(f) || masks(families.get(f)).length < 2;
    }

    private void checkElement(int element) {
        if (element < 0 || element > 11) {
            throw new IndexOutOfBoundsException();
        }
    }

    private int add(boolean[] family) {
        families.add(family);
        diagrams.add(null);
        return families.size() - 1;
    }

    private int addOfOne(String operation, int f) {
        boolean[] family = get(f);
        checkRoom();
        return add(ofOne(operation, family));
    }

    private int addOfTwo(String operation, int f, int g) {
        checkCreated(f);
        checkCreated(g);
        boolean[] left = get(f);
        boolean[] right = get(g);
        checkRoom();
        return add(ofTwo(operation, left, right));
    }

    public int errorPosition() {
        return errorAt;
    }

    public int write(int f) {
        StringBuilder out = new StringBuilder();
        for (int mask : masks(get(f))) {
            out.append(out.length() == 0 ? "" : "+");
            out.append(mask == 0 ? "1" : "");
            for (int element = 0; element < 12; element++) {
                out.append((mask & 1 << element) != 0 ? "" + (char) ('a' + element) : "");
            }
        }
        String all = out.length() == 0 ? "0" : out.toString();
        if (all.length() > 1000) {
            throw new ArithmeticException();
        }
        output = all;
        return output.length();
    }

    public int outputByte(int i) {
        if (i < 0 || i >= output.length()) {
            throw new IndexOutOfBoundsException();
        }
        return output.charAt(i);
    }

    public int single(int mask) {
        if (mask < 0 || mask > 4095) {
            throw new IllegalArgumentException();
        }
        checkRoom();
        boolean[] family = new boolean[4096];
        family[mask] = true;
        return add(family);
    }

    public int subsetsOf(int mask, int size) {
        if (mask < 0 || mask > 4095 || size < -1 || size > 12) {
            throw new IllegalArgumentException();
        }
        checkRoom();
        boolean[] family = new boolean[4096];
        for (int s = 0; s < 4096; s++) {
            family[s] = (s | mask) == mask && (size == -1 || Integer.bitCount(s) == size);
        }
        return add(family);
    }

    public int release(int f) {
        get(f);
        families.set(f, null);
        return (int) families.stream().filter(x -> x != null).count();
    }

    public int createdCount() {
        return families.size();
    }

    private static void collect(BitSet family, Set<BitSet> nodes) {
        int all = 0;
        for (int mask = family.nextSetBit(0); mask >= 0; mask = family.nextSetBit(mask + 1)) {
            all |= mask;
        }
        if (all == 0 || !nodes.add(family)) {
            return;
        }
        int top = Integer.lowestOneBit(all);
        BitSet high = new BitSet();
        BitSet low = new BitSet();
        for (int mask = family.nextSetBit(0); mask >= 0; mask = family.nextSetBit(mask + 1)) {
            (((mask & top) != 0) ? high : low).set(mask & ~top);
        }
        collect(high, nodes);
        collect(low, nodes);
    }

    private Set<BitSet> nodes(int f) {
        if (diagrams.get(f) == null) {
            BitSet family = new BitSet();
            for (int mask : masks(families.get(f))) {
                family.set(mask);
            }
            diagrams.set(f, new HashSet<>());
            collect(family, diagrams.get(f));
        }
        return diagrams.get(f);
    }

    public int nodeCount() {
        Set<BitSet> all = new HashSet<>();
        for (int f = 0; f < families.size(); f++) {
            if (families.get(f) != null) {
                all.addAll(nodes(f));
            }
        }
        return all.size();
    }

    public int nodesOf(int f) {
        get(f);
        return nodes(f).size();
    }

    public int union(int f, int g) {
        return addOfTwo("+", f, g);
    }

    public int intersection(int f, int g) {
        return addOfTwo("&", f, g);
    }

    public int difference(int f, int g) {
        return addOfTwo("-", f, g);
    }

    public int join(int f, int g) {
        return addOfTwo("*", f, g);
    }

    public int meet(int f, int g) {
        return addOfTwo("meet", f, g);
    }

    public int quotient(int f, int g) {
        return addOfTwo("/", f, g);
    }

    public int remainder(int f, int g) {
        return addOfTwo("%", f, g);
    }

    public int supersets(int f, int g) {
        return addOfTwo("supersets", f, g);
    }

    public int subsets(int f, int g) {
        return addOfTwo("subsets", f, g);
    }

    public int maximal(int f) {
        return addOfOne("max", f);
    }

    public int minimal(int f) {
        return addOfOne("min", f);
    }

    public int hitting(int f) {
        return addOfOne("hit", f);
    }

    public int closure(int f) {
        return addOfOne("sub", f);
    }

    public int change(int f, int element) {
        checkCreated(f);
        checkElement(element);
        boolean[] family = get(f);
        checkRoom();
        boolean[] result = new boolean[4096];
        for (int s = 0; s < 4096; s++) {
            result[s] = family[s ^ 1 << element];
        }
        return add(result);
    }

    public int withCost(int f, int low, int high) {
        boolean[] family = get(f);
        checkRoom();
        boolean[] result = new boolean[4096];
        for (int s = 0; s < 4096; s++) {
            result[s] = family[s] && low <= cost(s) && cost(s) <= high;
        }
        return add(result);
    }

    // ---- questions and costs

    public int count(int f) {
        return masks(get(f)).length;
    }

    public int countOfSize(int f, int size) {
        int found = 0;
        for (int mask : masks(get(f))) {
            found += Integer.bitCount(mask) == size ? 1 : 0;
        }
        return found;
    }

    public int countWith(int f, int element) {
        checkCreated(f);
        checkElement(element);
        int found = 0;
        for (int mask : masks(get(f))) {
            found += (mask & 1 << element) != 0 ? 1 : 0;
        }
        return found;
    }

    public boolean contains(int f, int mask) {
        boolean[] family = get(f);
        return mask >= 0 && mask < 4096 && family[mask];
    }

    public boolean areEqual(int f, int g) {
        checkCreated(f);
        checkCreated(g);
        return java.util.Arrays.equals(get(f), get(g));
    }

    public boolean isPartOf(int f, int g) {
        checkCreated(f);
        checkCreated(g);
        return masks(ofTwo("-", get(f), get(g))).length == 0;
    }

    public int setAt(int f, int index) {
        int[] sets = masks(get(f));
        if (index < 0 || index >= sets.length) {
            throw new NoSuchElementException();
        }
        return sets[index];
    }

    public int indexOf(int f, int mask) {
        int[] sets = masks(get(f));
        for (int i = 0; i < sets.length; i++) {
            if (sets[i] == mask) {
                return i;
            }
        }
        return -1;
    }

    public int setCost(int element, int cost) {
        checkElement(element);
        if (cost < -1000 || cost > 1000) {
            throw new IllegalArgumentException();
        }
        int before = costs[element];
        costs[element] = cost;
        return before;
    }

    private int cost(int mask) {
        int sum = 0;
        for (int element = 0; element < 12; element++) {
            sum += (mask & 1 << element) != 0 ? costs[element] : 0;
        }
        return sum;
    }

    private int[] filled(int f) {
        int[] sets = masks(get(f));
        if (sets.length == 0) {
            throw new NoSuchElementException();
        }
        return sets;
    }

    public int leastCost(int f) {
        int least = Integer.MAX_VALUE;
        for (int mask : filled(f)) {
            least = Math.min(least, cost(mask));
        }
        return least;
    }

    public double meanCost(int f) {
        int[] sets = filled(f);
        java.math.BigDecimal sum = java.math.BigDecimal.ZERO;
        for (int mask : sets) {
            sum = sum.add(java.math.BigDecimal.valueOf(cost(mask)));
        }
        return sum.divide(java.math.BigDecimal.valueOf(sets.length), new java.math.MathContext(60)).doubleValue();
    }

    public int enumerate(int f, int bound, int limit) {
        boolean[] family = get(f);
        if (limit < 1 || limit > 300) {
            throw new IllegalArgumentException();
        }
        List<Integer> all = new ArrayList<>();
        for (int mask : masks(family)) {
            if (cost(mask) <= bound) {
                all.add(mask);
            }
        }
        all.sort(java.util.Comparator.comparingInt(this::cost).thenComparingInt(x -> x));
        listed = new ArrayList<>(all.subList(0, Math.min(limit, all.size())));
        return listed.size();
    }

    public int enumerated(int index) {
        if (index < 0 || index >= listed.size()) {
            throw new IndexOutOfBoundsException();
        }
        return listed.get(index);
    }

    public long digest() {
        List<Integer> numbers = new ArrayList<>();
        numbers.add(families.size());
        for (int f = 0; f < families.size(); f++) {
            if (families.get(f) == null) {
                numbers.add(-1);
            } else {
                numbers.add(count(f));
                numbers.add(nodesOf(f));
            }
        }
        numbers.add(nodeCount());
        for (int cost : costs) {
            numbers.add(cost);
        }
        long d = 29;
        for (int x : numbers) {
            d = d * 31 + x;
        }
        return d;
    }
}
