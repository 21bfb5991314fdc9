import java.util.Arrays;
import java.util.NoSuchElementException;

/**
 * A store of families of sets of the elements 0 to 11, with an algebra of families, a calculator for
 * expressions, counting by size and by cost, and enumeration of the cheapest sets.
 *
 * A family is held as a row of 4096 bits, one for each mask; the nodes of the decision diagrams are
 * numbered in one shared table, from which their counts are told.
 */
public final class FamilyStore {
    private static final int ELEMENTS = 12;
    private static final int MASKS = 4096;
    private static final int WORDS = 64;
    private static final int WORD_BITS = 64;
    private static final int WORD_ELEMENTS = 6;

    private static final int MOST_FAMILIES = 200;
    private static final int MOST_TEXT = 200;
    private static final int FEED_BYTES = 20;
    private static final int MOST_OUTPUT = 1000;
    private static final int MOST_LISTED = 300;
    private static final int MOST_COST = 1000;
    private static final int MOST_OPEN = 20;
    private static final int MOST_DIGITS = 9;

    // The operators of expressions are known by their symbols, all else by numbers below them.
    private static final int UNION = '+';
    private static final int DIFFERENCE = '-';
    private static final int INTERSECTION = '&';
    private static final int JOIN = '*';
    private static final int QUOTIENT = '/';
    private static final int REMAINDER = '%';
    private static final int MEET = 1;
    private static final int SUPERSETS = 2;
    private static final int SUBSETS = 3;
    private static final int MAXIMAL = 4;
    private static final int MINIMAL = 5;
    private static final int HITTING = 6;
    private static final int CLOSURE = 7;

    private final byte[] text = new byte[MOST_TEXT];
    private int textLength = 0;
    private int errorAt = -1;
    private final byte[] output = new byte[MOST_OUTPUT];
    private int outputLength = 0;

    // Below created, an empty place is a family that was released.
    private final Family[] families = new Family[MOST_FAMILIES];
    private int created = 0;
    private int unreleased = 0;

    // Work space that the helpers share: none of them needs it any more when a call has ended.
    private final int[] first = new int[MASKS];
    private final int[] second = new int[MASKS];
    private final Algebra algebra = new Algebra(first, second);
    private final Diagrams diagrams = new Diagrams(first);
    private final Reader reader = new Reader();
    private final Calculator calculator = new Calculator();
    private final Costs costs = new Costs();
    private final int[] cheapest = new int[MOST_LISTED];
    private int cheapestLength = 0;

    public FamilyStore() {
    }

    // ---- texts

    public int feed(int a, int b, int c, int d, int e) throws IllegalStateException {
        if (textLength + FEED_BYTES > MOST_TEXT) {
            throw new IllegalStateException();
        }
        appendBytes(a);
        appendBytes(b);
        appendBytes(c);
        appendBytes(d);
        appendBytes(e);
        return textLength;
    }

    private void appendBytes(int four) {
        for (int shift = 24; shift >= 0; shift -= 8) {
            if (textLength < MOST_TEXT) {
                text[textLength] = (byte) (four >>> shift);
                textLength++;
            }
        }
    }

    public int trim(int n) throws IllegalArgumentException {
        if (n < 0 || n > textLength) {
            throw new IllegalArgumentException();
        }
        textLength = n;
        return n;
    }

    public int evaluate() throws IllegalArgumentException, IllegalStateException, ArithmeticException {
        errorAt = reader.read(text, textLength, families);
        textLength = 0;
        if (errorAt >= 0) {
            throw new IllegalArgumentException();
        }
        checkRoom();
        long[] result = calculator.run(reader, families, algebra);
        if (result == null) {
            throw new ArithmeticException();
        }
        return addFamily(Arrays.copyOf(result, WORDS));
    }

    public int errorPosition() {
        return errorAt;
    }

    public int write(int f)
            throws IndexOutOfBoundsException, java.util.NoSuchElementException, ArithmeticException {
        Family family = familyOf(f);
        int sets = Rows.list(family.row, first);
        if (writtenLength(sets) > MOST_OUTPUT) {
            throw new ArithmeticException();
        }
        outputLength = 0;
        if (sets == 0) {
            appendOutput('0');
        }
        for (int i = 0; i < sets && i < MASKS; i++) {
            if (i > 0) {
                appendOutput('+');
            }
            writeSet(first[i]);
        }
        return outputLength;
    }

    private int writtenLength(int sets) {
        if (sets == 0) {
            return 1;
        }
        int length = sets - 1;
        for (int i = 0; i < sets && i < MASKS; i++) {
            length += Math.max(1, Integer.bitCount(first[i]));
        }
        return length;
    }

    private void writeSet(int mask) {
        if (mask == 0) {
            appendOutput('1');
        }
        for (int element = 0; element < ELEMENTS; element++) {
            if ((mask >> element & 1) != 0) {
                appendOutput('a' + element);
            }
        }
    }

    private void appendOutput(int sign) {
        if (outputLength < MOST_OUTPUT) {
            output[outputLength] = (byte) sign;
            outputLength++;
        }
    }

    public int outputByte(int i) throws IndexOutOfBoundsException {
        if (i < 0 || i >= outputLength || i >= MOST_OUTPUT) {
            throw new IndexOutOfBoundsException();
        }
        return output[i];
    }

    // ---- families

    public int single(int mask) throws IllegalArgumentException, IllegalStateException {
        checkMask(mask);
        checkRoom();
        long[] row = new long[WORDS];
        Rows.put(row, mask);
        return addFamily(row);
    }

    public int subsetsOf(int mask, int size) throws IllegalArgumentException, IllegalStateException {
        checkMask(mask);
        if (size < -1 || size > ELEMENTS) {
            throw new IllegalArgumentException();
        }
        checkRoom();
        long[] row = new long[WORDS];
        for (int part = 0; part <= mask && part < MASKS; part++) {
            if ((part & ~mask) == 0 && (size == -1 || Integer.bitCount(part) == size)) {
                Rows.put(row, part);
            }
        }
        return addFamily(row);
    }

    public int release(int f) throws IndexOutOfBoundsException, java.util.NoSuchElementException {
        Family family = familyOf(f);
        diagrams.visit(family.row, -1);
        families[f] = null;
        unreleased--;
        return unreleased;
    }

    public int createdCount() {
        return created;
    }

    public int nodeCount() {
        return diagrams.inUse;
    }

    public int nodesOf(int f) throws IndexOutOfBoundsException, java.util.NoSuchElementException {
        return familyOf(f).nodes;
    }

    private void checkMask(int mask) {
        if (mask < 0 || mask >= MASKS) {
            throw new IllegalArgumentException();
        }
    }

    private void checkElement(int element) {
        if (element < 0 || element >= ELEMENTS) {
            throw new IndexOutOfBoundsException();
        }
    }

    private void checkCreated(int f) {
        if (f < 0 || f >= created || f >= MOST_FAMILIES) {
            throw new IndexOutOfBoundsException();
        }
    }

    private void checkRoom() {
        if (created >= MOST_FAMILIES) {
            throw new IllegalStateException();
        }
    }

    private Family familyOf(int f) {
        checkCreated(f);
        Family family = families[f];
        if (family == null) {
            throw new NoSuchElementException();
        }
        return family;
    }

    private Family filledFamilyOf(int f) {
        Family family = familyOf(f);
        if (family.sets == 0) {
            throw new NoSuchElementException();
        }
        return family;
    }

    private int addFamily(long[] row) {
        checkRoom();
        families[created] = new Family(row, Rows.size(row), diagrams.visit(row, 1));
        created++;
        unreleased++;
        return created - 1;
    }

    // ---- operations

    public int union(int f, int g)
            throws IndexOutOfBoundsException, java.util.NoSuchElementException, IllegalStateException {
        return addOfTwo(f, g, UNION);
    }

    public int intersection(int f, int g)
            throws IndexOutOfBoundsException, java.util.NoSuchElementException, IllegalStateException {
        return addOfTwo(f, g, INTERSECTION);
    }

    public int difference(int f, int g)
            throws IndexOutOfBoundsException, java.util.NoSuchElementException, IllegalStateException {
        return addOfTwo(f, g, DIFFERENCE);
    }

    public int join(int f, int g)
            throws IndexOutOfBoundsException, java.util.NoSuchElementException, IllegalStateException {
        return addOfTwo(f, g, JOIN);
    }

    public int meet(int f, int g)
            throws IndexOutOfBoundsException, java.util.NoSuchElementException, IllegalStateException {
        return addOfTwo(f, g, MEET);
    }

    public int quotient(int f, int g) throws IndexOutOfBoundsException, java.util.NoSuchElementException,
            IllegalStateException, ArithmeticException {
        return addOfTwo(f, g, QUOTIENT);
    }

    public int remainder(int f, int g) throws IndexOutOfBoundsException, java.util.NoSuchElementException,
            IllegalStateException, ArithmeticException {
        return addOfTwo(f, g, REMAINDER);
    }

    public int supersets(int f, int g)
            throws IndexOutOfBoundsException, java.util.NoSuchElementException, IllegalStateException {
        return addOfTwo(f, g, SUPERSETS);
    }

    public int subsets(int f, int g)
            throws IndexOutOfBoundsException, java.util.NoSuchElementException, IllegalStateException {
        return addOfTwo(f, g, SUBSETS);
    }

    public int maximal(int f)
            throws IndexOutOfBoundsException, java.util.NoSuchElementException, IllegalStateException {
        return addOfOne(f, MAXIMAL);
    }

    public int minimal(int f)
            throws IndexOutOfBoundsException, java.util.NoSuchElementException, IllegalStateException {
        return addOfOne(f, MINIMAL);
    }

    public int hitting(int f)
            throws IndexOutOfBoundsException, java.util.NoSuchElementException, IllegalStateException {
        return addOfOne(f, HITTING);
    }

    public int closure(int f)
            throws IndexOutOfBoundsException, java.util.NoSuchElementException, IllegalStateException {
        return addOfOne(f, CLOSURE);
    }

    private int addOfOne(int f, int operation) {
        Family family = familyOf(f);
        checkRoom();
        long[] row = Arrays.copyOf(family.row, WORDS);
        algebra.applyToOne(operation, row);
        return addFamily(row);
    }

    private int addOfTwo(int f, int g, int operation) {
        checkCreated(f);
        checkCreated(g);
        Family left = familyOf(f);
        Family right = familyOf(g);
        checkRoom();
        if (right.sets == 0 && (operation == QUOTIENT || operation == REMAINDER)) {
            throw new ArithmeticException();
        }
        long[] row = Arrays.copyOf(left.row, WORDS);
        algebra.applyToTwo(operation, row, right.row);
        return addFamily(row);
    }

    public int change(int f, int element)
            throws IndexOutOfBoundsException, java.util.NoSuchElementException, IllegalStateException {
        checkCreated(f);
        checkElement(element);
        Family family = familyOf(f);
        checkRoom();
        long[] row = Arrays.copyOf(family.row, WORDS);
        Rows.swap(row, element);
        return addFamily(row);
    }

    public int withCost(int f, int low, int high)
            throws IndexOutOfBoundsException, java.util.NoSuchElementException, IllegalStateException {
        Family family = familyOf(f);
        checkRoom();
        int sets = Rows.list(family.row, first);
        long[] row = new long[WORDS];
        for (int i = 0; i < sets && i < MASKS; i++) {
            int cost = costs.of(first[i]);
            if (cost >= low && cost <= high) {
                Rows.put(row, first[i]);
            }
        }
        return addFamily(row);
    }

    // ---- questions

    public int count(int f) throws IndexOutOfBoundsException, java.util.NoSuchElementException {
        return familyOf(f).sets;
    }

    public int countOfSize(int f, int size)
            throws IndexOutOfBoundsException, java.util.NoSuchElementException {
        Family family = familyOf(f);
        int sets = Rows.list(family.row, first);
        int found = 0;
        for (int i = 0; i < sets && i < MASKS; i++) {
            if (Integer.bitCount(first[i]) == size) {
                found++;
            }
        }
        return found;
    }

    public int countWith(int f, int element)
            throws IndexOutOfBoundsException, java.util.NoSuchElementException {
        checkCreated(f);
        checkElement(element);
        Family family = familyOf(f);
        int sets = Rows.list(family.row, first);
        int found = 0;
        for (int i = 0; i < sets && i < MASKS; i++) {
            found += first[i] >> element & 1;
        }
        return found;
    }

    public boolean contains(int f, int mask)
            throws IndexOutOfBoundsException, java.util.NoSuchElementException {
        return Rows.has(familyOf(f).row, mask);
    }

    public boolean areEqual(int f, int g)
            throws IndexOutOfBoundsException, java.util.NoSuchElementException {
        checkCreated(f);
        checkCreated(g);
        Family left = familyOf(f);
        Family right = familyOf(g);
        return left.sets == right.sets && Rows.isInside(left.row, right.row);
    }

    public boolean isPartOf(int f, int g)
            throws IndexOutOfBoundsException, java.util.NoSuchElementException {
        checkCreated(f);
        checkCreated(g);
        Family left = familyOf(f);
        Family right = familyOf(g);
        return Rows.isInside(left.row, right.row);
    }

    public int setAt(int f, int index) throws IndexOutOfBoundsException, java.util.NoSuchElementException {
        Family family = familyOf(f);
        int sets = Rows.list(family.row, first);
        if (index < 0 || index >= sets || index >= MASKS) {
            throw new NoSuchElementException();
        }
        return first[index];
    }

    public int indexOf(int f, int mask) throws IndexOutOfBoundsException, java.util.NoSuchElementException {
        Family family = familyOf(f);
        if (!Rows.has(family.row, mask)) {
            return -1;
        }
        return Rows.sizeBelow(family.row, mask);
    }

    // ---- costs

    public int setCost(int element, int cost) throws IndexOutOfBoundsException, IllegalArgumentException {
        checkElement(element);
        if (cost < -MOST_COST || cost > MOST_COST) {
            throw new IllegalArgumentException();
        }
        return costs.replace(element, cost);
    }

    public int leastCost(int f) throws IndexOutOfBoundsException, java.util.NoSuchElementException {
        Family family = filledFamilyOf(f);
        int sets = Rows.list(family.row, first);
        int least = ELEMENTS * MOST_COST;
        for (int i = 0; i < sets && i < MASKS; i++) {
            least = Math.min(least, costs.of(first[i]));
        }
        return least;
    }

    public double meanCost(int f) throws IndexOutOfBoundsException, java.util.NoSuchElementException {
        Family family = filledFamilyOf(f);
        int sets = Rows.list(family.row, first);
        int sum = 0;
        for (int i = 0; i < sets && i < MASKS; i++) {
            sum += costs.of(first[i]);
        }
        return (double) sum / (double) family.sets;
    }

    public int enumerate(int f, int bound, int limit)
            throws IndexOutOfBoundsException, java.util.NoSuchElementException, IllegalArgumentException {
        Family family = familyOf(f);
        if (limit < 1 || limit > MOST_LISTED) {
            throw new IllegalArgumentException();
        }
        int sets = Rows.list(family.row, first);
        int ranked = 0;
        for (int i = 0; i < sets && i < MASKS; i++) {
            if (costs.of(first[i]) <= bound && ranked < MASKS) {
                second[ranked] = costs.rank(first[i]);
                ranked++;
            }
        }
        keepCheapest(ranked, Math.min(limit, ranked));
        return cheapestLength;
    }

    private void keepCheapest(int ranked, int wanted) {
        Heap.order(second, ranked);
        cheapestLength = 0;
        for (int i = 0; i < wanted && i < MOST_LISTED; i++) {
            cheapest[i] = Heap.takeLeast(second, ranked - i) & (MASKS - 1);
            cheapestLength++;
        }
    }

    public int enumerated(int index) throws IndexOutOfBoundsException {
        if (index < 0 || index >= cheapestLength || index >= MOST_LISTED) {
            throw new IndexOutOfBoundsException();
        }
        return cheapest[index];
    }

    public long digest() {
        long d = 29;
        d = d * 31 + created;
        for (int f = 0; f < created && f < MOST_FAMILIES; f++) {
            Family family = families[f];
            if (family == null) {
                d = d * 31 - 1;
            } else {
                d = d * 31 + family.sets;
                d = d * 31 + family.nodes;
            }
        }
        d = d * 31 + diagrams.inUse;
        for (int element = 0; element < ELEMENTS; element++) {
            d = d * 31 + costs.each[element];
        }
        return d;
    }

    /** A family with what is often asked of it; it never changes. */
    private static final class Family {
        final long[] row;
        final int sets;
        final int nodes;

        Family(long[] row, int sets, int nodes) {
            this.row = row;
            this.sets = sets;
            this.nodes = nodes;
        }
    }

    /**
     * Families as rows of 64 words: bit m % 64 of word m / 64 tells whether the set with mask m is in the
     * family. So the elements 0 to 5 are told apart inside a word, the elements 6 to 11 by the word.
     */
    private static final class Rows {
        /** For each element below 6 the bits of a word whose sets have it. */
        private static final long[] WITH = {
            0xAAAAAAAAAAAAAAAAL, 0xCCCCCCCCCCCCCCCCL, 0xF0F0F0F0F0F0F0F0L,
            0xFF00FF00FF00FF00L, 0xFFFF0000FFFF0000L, 0xFFFFFFFF00000000L
        };

        static boolean has(long[] row, int mask) {
            return mask >= 0 && mask < MASKS && (row[mask / WORD_BITS] >>> mask % WORD_BITS & 1L) != 0;
        }

        static void put(long[] row, int mask) {
            if (mask >= 0 && mask < MASKS) {
                row[mask / WORD_BITS] |= 1L << mask % WORD_BITS;
            }
        }

        static void remove(long[] row, int mask) {
            if (mask >= 0 && mask < MASKS) {
                row[mask / WORD_BITS] &= ~(1L << mask % WORD_BITS);
            }
        }

        static void copy(long[] from, long[] to) {
            System.arraycopy(from, 0, to, 0, WORDS);
        }

        static int size(long[] row) {
            int sets = 0;
            for (int w = 0; w < WORDS; w++) {
                sets += Long.bitCount(row[w]);
            }
            return sets;
        }

        /** How many sets of the family come before this mask. */
        static int sizeBelow(long[] row, int mask) {
            int sets = 0;
            for (int w = 0; w < mask / WORD_BITS && w < WORDS; w++) {
                sets += Long.bitCount(row[w]);
            }
            if (mask >= 0 && mask < MASKS) {
                long below = (1L << mask % WORD_BITS) - 1;
                sets += Long.bitCount(row[mask / WORD_BITS] & below);
            }
            return sets;
        }

        static boolean isInside(long[] row, long[] other) {
            for (int w = 0; w < WORDS; w++) {
                if ((row[w] & ~other[w]) != 0) {
                    return false;
                }
            }
            return true;
        }

        /** The least power of two that is greater than all masks of the family, at least 1. */
        static int span(long[] row) {
            int greatest = 0;
            for (int w = WORDS - 1; w >= 0 && greatest == 0; w--) {
                if (row[w] != 0) {
                    greatest = w * WORD_BITS + WORD_BITS - 1 - Long.numberOfLeadingZeros(row[w]);
                }
            }
            int span = 1;
            while (span <= greatest && span < MASKS) {
                span *= 2;
            }
            return span;
        }

        /** Puts the masks of the family into a list, in ascending order, and answers how many there are. */
        static int list(long[] row, int[] masks) {
            int sets = 0;
            for (int w = 0; w < WORDS; w++) {
                long rest = row[w];
                for (int bit = 0; bit < WORD_BITS && rest != 0; bit++) {
                    if (sets < masks.length) {
                        masks[sets] = w * WORD_BITS + Long.numberOfTrailingZeros(rest);
                        sets++;
                    }
                    rest &= rest - 1;
                }
            }
            return sets;
        }

        /** Adds to a row the sets of another (or the same) that have the element, without it. */
        static void takeOut(long[] from, long[] to, int element) {
            if (element < WORD_ELEMENTS && element >= 0) {
                for (int w = 0; w < WORDS; w++) {
                    to[w] |= (from[w] & WITH[element]) >>> (1 << element);
                }
                return;
            }
            int step = 1 << element - WORD_ELEMENTS;
            for (int w = 0; w + step < WORDS; w++) {
                if ((w & step) == 0) {
                    to[w] |= from[w + step];
                }
            }
        }

        /** Adds to a row the sets of another (or the same) that lack the element, with it. */
        static void putIn(long[] from, long[] to, int element) {
            if (element < WORD_ELEMENTS && element >= 0) {
                for (int w = 0; w < WORDS; w++) {
                    to[w] |= (from[w] & ~WITH[element]) << (1 << element);
                }
                return;
            }
            int step = 1 << element - WORD_ELEMENTS;
            for (int w = 0; w + step < WORDS; w++) {
                if ((w & step) == 0) {
                    to[w + step] |= from[w];
                }
            }
        }

        /** Takes the element out of the sets that have it, and puts it into the others. */
        static void swap(long[] row, int element) {
            if (element < WORD_ELEMENTS && element >= 0) {
                int shift = 1 << element;
                for (int w = 0; w < WORDS; w++) {
                    long with = row[w] & WITH[element];
                    row[w] = with >>> shift | (row[w] ^ with) << shift;
                }
                return;
            }
            int step = 1 << element - WORD_ELEMENTS;
            for (int w = 0; w + step < WORDS; w++) {
                if ((w & step) == 0) {
                    long with = row[w + step];
                    row[w + step] = row[w];
                    row[w] = with;
                }
            }
        }

        /** Adds all subsets of the sets. */
        static void lower(long[] row) {
            for (int element = 0; element < ELEMENTS; element++) {
                takeOut(row, row, element);
            }
        }

        /** Adds all supersets of the sets. */
        static void raise(long[] row) {
            for (int element = 0; element < ELEMENTS; element++) {
                putIn(row, row, element);
            }
        }
    }

    /** The operations; each of them leaves its result in the row of its (left) family. */
    private static final class Algebra {
        /** With at most so many pairs, joining them one by one is less work than counting them all. */
        private static final int FEW_PAIRS = 32768;

        private final int[] first;
        private final int[] second;
        private final long[] spare = new long[WORDS];
        private final long[] steps = new long[WORDS];

        Algebra(int[] first, int[] second) {
            this.first = first;
            this.second = second;
        }

        void applyToOne(int operation, long[] row) {
            switch (operation) {
                case MAXIMAL:
                    keepMaximal(row);
                    break;
                case MINIMAL:
                    keepMinimal(row);
                    break;
                case HITTING:
                    hit(row);
                    break;
                case CLOSURE:
                    Rows.lower(row);
                    break;
                default:
                    break;
            }
        }

        void applyToTwo(int operation, long[] row, long[] other) {
            switch (operation) {
                case UNION:
                    addAll(row, other);
                    break;
                case INTERSECTION:
                    keepAll(row, other);
                    break;
                case DIFFERENCE:
                    removeAll(row, other);
                    break;
                case JOIN:
                    pair(row, other, false);
                    break;
                case MEET:
                    pair(row, other, true);
                    break;
                case QUOTIENT:
                    divide(row, other);
                    Rows.copy(spare, row);
                    break;
                case REMAINDER:
                    int divisors = divide(row, other);
                    removeProducts(row, divisors);
                    break;
                case SUPERSETS:
                    Rows.copy(other, spare);
                    Rows.raise(spare);
                    keepAll(row, spare);
                    break;
                case SUBSETS:
                    Rows.copy(other, spare);
                    Rows.lower(spare);
                    keepAll(row, spare);
                    break;
                default:
                    break;
            }
        }

        private static void addAll(long[] row, long[] other) {
            for (int w = 0; w < WORDS; w++) {
                row[w] |= other[w];
            }
        }

        private static void keepAll(long[] row, long[] other) {
            for (int w = 0; w < WORDS; w++) {
                row[w] &= other[w];
            }
        }

        private static void removeAll(long[] row, long[] other) {
            for (int w = 0; w < WORDS; w++) {
                row[w] &= ~other[w];
            }
        }

        /** The proper subsets of the sets are the subsets with one element more taken out. */
        private void keepMaximal(long[] row) {
            Rows.copy(row, spare);
            Rows.lower(spare);
            Arrays.fill(steps, 0L);
            for (int element = 0; element < ELEMENTS; element++) {
                Rows.takeOut(spare, steps, element);
            }
            removeAll(row, steps);
        }

        /** The proper supersets of the sets are the supersets with one element more put in. */
        private void keepMinimal(long[] row) {
            Rows.copy(row, spare);
            Rows.raise(spare);
            Arrays.fill(steps, 0L);
            for (int element = 0; element < ELEMENTS; element++) {
                Rows.putIn(spare, steps, element);
            }
            removeAll(row, steps);
        }

        /** A set hits all sets if no set is inside its complement, which then is a superset of none. */
        private void hit(long[] row) {
            Rows.raise(row);
            for (int element = 0; element < ELEMENTS; element++) {
                Rows.swap(row, element);
            }
            for (int w = 0; w < WORDS; w++) {
                row[w] = ~row[w];
            }
            keepMinimal(row);
        }

        /** The unions of all pairs, or what the pairs have in common. */
        private void pair(long[] row, long[] other, boolean common) {
            int lefts = Rows.list(row, first);
            int rights = Rows.list(other, second);
            if (lefts * rights > FEW_PAIRS) {
                countPairs(row, other, common);
                return;
            }
            Arrays.fill(row, 0L);
            for (int i = 0; i < lefts && i < MASKS; i++) {
                for (int k = 0; k < rights && k < MASKS; k++) {
                    Rows.put(row, common ? first[i] & second[k] : first[i] | second[k]);
                }
            }
        }

        /**
         * Counts for each set the pairs whose union is inside it, and from these counts the pairs whose
         * union it is. The common part of a pair is the complement of the union of the complements.
         */
        private void countPairs(long[] row, long[] other, boolean common) {
            int span = Math.max(Rows.span(row), Rows.span(other));
            int flip = common ? span - 1 : 0;
            spread(row, first, span, flip);
            spread(other, second, span, flip);
            sumSubsets(first, span, 1);
            sumSubsets(second, span, 1);
            for (int mask = 0; mask < span && mask < MASKS; mask++) {
                first[mask] *= second[mask];
            }
            sumSubsets(first, span, -1);
            Arrays.fill(row, 0L);
            for (int mask = 0; mask < span && mask < MASKS; mask++) {
                if (first[mask] != 0) {
                    Rows.put(row, mask ^ flip);
                }
            }
        }

        private static void spread(long[] row, int[] counts, int span, int flip) {
            for (int mask = 0; mask < span && mask < counts.length; mask++) {
                counts[mask] = Rows.has(row, mask ^ flip) ? 1 : 0;
            }
        }

        /** Adds up (or, with sign -1, takes apart again) the counts of all subsets of each set. */
        private static void sumSubsets(int[] counts, int span, int sign) {
            for (int bit = 1; bit < span; bit *= 2) {
                for (int mask = bit; mask < span && mask < counts.length; mask++) {
                    if ((mask & bit) != 0) {
                        counts[mask] += sign * counts[mask - bit];
                    }
                }
            }
        }

        /**
         * Leaves the quotient in the spare row and the divisor's sets in the first list, and answers how
         * many these are. Divisors and quotient share no element, so there are at most 4096 pairs of them.
         */
        private int divide(long[] row, long[] other) {
            int divisors = Rows.list(other, first);
            int used = 0;
            for (int i = 0; i < divisors && i < MASKS; i++) {
                used |= first[i];
            }
            int span = Rows.span(row);
            Arrays.fill(spare, 0L);
            for (int mask = 0; mask < span && mask < MASKS; mask++) {
                if ((mask & used) == 0 && hasAllWith(row, mask, divisors)) {
                    Rows.put(spare, mask);
                }
            }
            return divisors;
        }

        private boolean hasAllWith(long[] row, int mask, int divisors) {
            for (int i = 0; i < divisors && i < MASKS; i++) {
                if (!Rows.has(row, mask | first[i])) {
                    return false;
                }
            }
            return true;
        }

        private void removeProducts(long[] row, int divisors) {
            int quotients = Rows.list(spare, second);
            for (int k = 0; k < quotients && k < MASKS; k++) {
                for (int i = 0; i < divisors && i < MASKS; i++) {
                    Rows.remove(row, second[k] | first[i]);
                }
            }
        }
    }

    /**
     * The nodes of all diagrams, each family numbered once: 0 is the empty family, 1 the family with the
     * empty set alone (which are no nodes), and from 2 on the nodes in the order in which they were met.
     */
    private static final class Diagrams {
        private static final int FIRST_NODE = 2;
        private static final int FIRST_ROOM = 64;
        private static final int PART_BITS = 20;
        private static final long SCATTER = 0x9E3779B97F4A7C15L;

        private final int[] parts;
        // A node's key holds its top and the numbers of its low and its high part.
        private long[] keys = new long[FIRST_ROOM];
        // How many families that are not released have the node in their diagram.
        private int[] users = new int[FIRST_ROOM];
        // The latest visit that met the node.
        private int[] metBy = new int[FIRST_ROOM];
        // Where nodes are found by their keys; always at most half full, 0 where it is free.
        private int[] places = new int[2 * FIRST_ROOM];
        private int next = FIRST_NODE;
        private int visits = 0;
        private int inUse = 0;

        Diagrams(int[] parts) {
            this.parts = parts;
        }

        /** Adds to the users of each node of a family's diagram, and answers how many nodes it has. */
        int visit(long[] row, int more) {
            int span = Rows.span(row);
            for (int mask = 0; mask < span && mask < parts.length; mask++) {
                parts[mask] = Rows.has(row, mask) ? 1 : 0;
            }
            visits++;
            int met = 0;
            // Once this element is done, parts[m] is the family that is left when all smaller elements
            // were decided as in m.
            for (int element = ELEMENTS - 1; element >= 0; element--) {
                int bit = 1 << element;
                for (int mask = 0; mask + bit < span && mask < bit; mask++) {
                    if (parts[mask + bit] != 0) {
                        int node = numberOf(element, parts[mask], parts[mask + bit]);
                        parts[mask] = node;
                        met += mark(node, more);
                    }
                }
            }
            return met;
        }

        /** Answers 1 if this visit meets the node for the first time, else 0. */
        private int mark(int node, int more) {
            if (node < 0 || node >= metBy.length || node >= users.length || metBy[node] == visits) {
                return 0;
            }
            metBy[node] = visits;
            boolean usedBefore = users[node] > 0;
            users[node] += more;
            boolean usedNow = users[node] > 0;
            if (usedNow != usedBefore) {
                inUse += more;
            }
            return 1;
        }

        private int numberOf(int top, int low, int high) {
            if (next >= keys.length) {
                enlarge();
            }
            long key = ((long) top << PART_BITS | low) << PART_BITS | high;
            int place = placeOf(key);
            if (places[place] == 0) {
                keys[next] = key;
                places[place] = next;
                next++;
            }
            return places[place];
        }

        /** The place of the node with this key, or the free place where it belongs. */
        private int placeOf(long key) {
            int last = places.length - 1;
            int place = (int) (key * SCATTER >>> 40) & last;
            for (int step = 0; step <= last; step++) {
                int node = places[place];
                if (node == 0 || keys[node] == key) {
                    return place;
                }
                place = place + 1 & last;
            }
            return place;
        }

        private void enlarge() {
            int room = 2 * keys.length;
            keys = Arrays.copyOf(keys, room);
            users = Arrays.copyOf(users, room);
            metBy = Arrays.copyOf(metBy, room);
            places = new int[2 * room];
            for (int node = FIRST_NODE; node < next; node++) {
                places[placeOf(keys[node])] = node;
            }
        }
    }

    /** The costs of the elements, and of the sets of the elements 0 to 5 and of those of 6 to 11. */
    private static final class Costs {
        private static final int HALF_MASKS = 64;

        private final int[] each = new int[ELEMENTS];
        private final int[] ofLower = new int[HALF_MASKS];
        private final int[] ofUpper = new int[HALF_MASKS];

        int of(int mask) {
            return ofLower[mask & HALF_MASKS - 1] + ofUpper[mask >> WORD_ELEMENTS & HALF_MASKS - 1];
        }

        /** A number by which sets are ordered by cost and then by mask; its lowest bits are the mask. */
        int rank(int mask) {
            return (of(mask) + ELEMENTS * MOST_COST) * MASKS + mask;
        }

        /** Answers the cost before. */
        int replace(int element, int cost) {
            if (element < 0 || element >= ELEMENTS) {
                return 0;
            }
            int before = each[element];
            each[element] = cost;
            int[] half = element < WORD_ELEMENTS ? ofLower : ofUpper;
            for (int mask = 0; mask < HALF_MASKS; mask++) {
                if ((mask >> element % WORD_ELEMENTS & 1) != 0) {
                    half[mask] += cost - before;
                }
            }
            return before;
        }
    }

    /** The first places of an array as a heap: the number at i is not greater than those at 2i+1 and 2i+2. */
    private static final class Heap {
        static void order(int[] numbers, int size) {
            for (int i = size / 2 - 1; i >= 0; i--) {
                sink(numbers, i, size);
            }
        }

        /** Takes the least number out of a heap of this size, which has one less then. */
        static int takeLeast(int[] numbers, int size) {
            if (size <= 0 || size > numbers.length) {
                return 0;
            }
            int least = numbers[0];
            numbers[0] = numbers[size - 1];
            sink(numbers, 0, size - 1);
            return least;
        }

        private static void sink(int[] numbers, int start, int size) {
            int at = start;
            for (int child = 2 * at + 1; child < size && child < numbers.length; child = 2 * at + 1) {
                if (child + 1 < size && child + 1 < numbers.length && numbers[child + 1] < numbers[child]) {
                    child++;
                }
                if (numbers[at] <= numbers[child]) {
                    return;
                }
                int number = numbers[at];
                numbers[at] = numbers[child];
                numbers[child] = number;
                at = child;
            }
        }
    }

    /** Reads expressions, and turns them into steps: operands first, then what is done with them. */
    private static final class Reader {
        /** Kinds of steps beside the operations. */
        private static final int PUSH_SET = 8;
        private static final int PUSH_NOTHING = 9;
        private static final int PUSH_FAMILY = 10;

        /** Kinds of tokens; a symbol is its own kind. */
        private static final int END = 11;
        private static final int WORD = 12;
        private static final int NUMBER = 13;
        private static final int NO_TOKEN = 14;

        private final int[] kinds = new int[MOST_TEXT];
        private final int[] values = new int[MOST_TEXT];
        private int steps = 0;

        private byte[] text = new byte[0];
        private int length = 0;
        private Family[] families = new Family[0];
        private int token = END;
        private int start = 0;
        private int end = 0;
        private int errorAt = -1;

        /** Answers the position of the first error, -1 if there is none. */
        int read(byte[] text, int length, Family[] families) {
            this.text = text;
            this.length = Math.min(length, text.length);
            this.families = families;
            steps = 0;
            end = 0;
            errorAt = -1;
            advance();
            readSum(0);
            if (token != END) {
                fail();
            }
            return errorAt;
        }

        private void fail() {
            if (errorAt < 0) {
                errorAt = start;
            }
        }

        private void addStep(int kind, int value) {
            if (steps < kinds.length && steps < values.length) {
                kinds[steps] = kind;
                values[steps] = value;
                steps++;
            }
        }

        private void readSum(int open) {
            readProduct(open);
            for (int i = 0; i < MOST_TEXT && errorAt < 0 && isSumSign(token); i++) {
                int operation = token;
                advance();
                readProduct(open);
                addStep(operation, 0);
            }
        }

        private void readProduct(int open) {
            readFactor(open);
            for (int i = 0; i < MOST_TEXT && errorAt < 0 && isProductSign(token); i++) {
                int operation = token;
                advance();
                readFactor(open);
                addStep(operation, 0);
            }
        }

        private static boolean isSumSign(int token) {
            return token == UNION || token == DIFFERENCE || token == INTERSECTION;
        }

        private static boolean isProductSign(int token) {
            return token == JOIN || token == QUOTIENT || token == REMAINDER;
        }

        private void readFactor(int open) {
            if (errorAt >= 0) {
                return;
            }
            switch (token) {
                case '(':
                    readBracket(open);
                    break;
                case WORD:
                    readWord(open);
                    break;
                case NUMBER:
                    readConstant();
                    break;
                case '#':
                    advance();
                    readFamilyNumber();
                    break;
                default:
                    fail();
                    break;
            }
        }

        /** open is the number of brackets around the place; here its depth is refused beyond the limit. */
        private void readBracket(int open) {
            if (token != '(' || open >= MOST_OPEN) {
                fail();
                return;
            }
            advance();
            readSum(open + 1);
            if (token != ')') {
                fail();
                return;
            }
            advance();
        }

        private void readWord(int open) {
            int function = functionOfWord();
            if (function != 0) {
                advance();
                readBracket(open);
                addStep(function, 0);
                return;
            }
            int mask = maskOfWord();
            if (mask == 0) {
                fail();
                return;
            }
            addStep(PUSH_SET, mask);
            advance();
        }

        private void readConstant() {
            int digit = at(start);
            if (end - start != 1 || digit != '0' && digit != '1') {
                fail();
                return;
            }
            addStep(digit == '0' ? PUSH_NOTHING : PUSH_SET, 0);
            advance();
        }

        private void readFamilyNumber() {
            if (token != NUMBER || end - start > MOST_DIGITS) {
                fail();
                return;
            }
            int number = 0;
            for (int i = start; i < end; i++) {
                number = number * 10 + at(i) - '0';
            }
            // Places that no family has taken yet are empty like those of released families.
            if (number < 0 || number >= families.length || families[number] == null) {
                fail();
                return;
            }
            addStep(PUSH_FAMILY, number);
            advance();
        }

        /** The operation that the word names, 0 if none. */
        private int functionOfWord() {
            if (isWord('m', 'a', 'x')) {
                return MAXIMAL;
            }
            if (isWord('m', 'i', 'n')) {
                return MINIMAL;
            }
            if (isWord('h', 'i', 't')) {
                return HITTING;
            }
            return isWord('s', 'u', 'b') ? CLOSURE : 0;
        }

        private boolean isWord(int a, int b, int c) {
            return end - start == 3 && at(start) == a && at(start + 1) == b && at(start + 2) == c;
        }

        /** The mask of the set that the word names, 0 if none (the empty set has no word). */
        private int maskOfWord() {
            int mask = 0;
            for (int i = start; i < end; i++) {
                int element = at(i) - 'a';
                if (element < 0 || element >= ELEMENTS || (mask >> element & 1) != 0) {
                    return 0;
                }
                mask |= 1 << element;
            }
            return mask;
        }

        /** Reads the next token: its first byte is at start, the byte behind it at end. */
        private void advance() {
            start = end;
            while (start < length && at(start) == ' ') {
                start++;
            }
            end = start;
            if (start >= length) {
                token = END;
                return;
            }
            int sign = at(start);
            end++;
            if (isLetter(sign)) {
                token = WORD;
                while (end < length && isLetter(at(end))) {
                    end++;
                }
            } else if (isDigit(sign)) {
                token = NUMBER;
                while (end < length && isDigit(at(end))) {
                    end++;
                }
            } else {
                token = isSymbol(sign) ? sign : NO_TOKEN;
            }
        }

        private int at(int i) {
            return i >= 0 && i < length && i < text.length ? text[i] : 0;
        }

        private static boolean isLetter(int sign) {
            return sign >= 'a' && sign <= 'z';
        }

        private static boolean isDigit(int sign) {
            return sign >= '0' && sign <= '9';
        }

        private static boolean isSymbol(int sign) {
            return isSumSign(sign) || isProductSign(sign) || sign == '(' || sign == ')' || sign == '#';
        }
    }

    /** Carries out the steps of an expression on a stack of rows. */
    private static final class Calculator {
        /** Each bracket can wait behind two operands, and two more and one factor can be in the last one. */
        private static final int MOST_ROWS = 2 * MOST_OPEN + 3;

        // A row is made when the stack reaches it first, because few expressions need many.
        private final long[][] rows = new long[MOST_ROWS][];
        private int depth = 0;

        /** The row with the result, null if it would be a division by the empty family. */
        long[] run(Reader expression, Family[] families, Algebra algebra) {
            depth = 0;
            int steps = Math.min(expression.steps, MOST_TEXT);
            for (int i = 0; i < steps; i++) {
                int kind = expression.kinds[i];
                int value = expression.values[i];
                if (kind == Reader.PUSH_SET) {
                    Rows.put(push(), value);
                } else if (kind == Reader.PUSH_NOTHING) {
                    push();
                } else if (kind == Reader.PUSH_FAMILY) {
                    pushFamily(families, value);
                } else if (!apply(kind, algebra)) {
                    return null;
                }
            }
            return row(0);
        }

        /** Answers false if it would be a division by the empty family. */
        private boolean apply(int operation, Algebra algebra) {
            if (operation == MAXIMAL || operation == MINIMAL || operation == HITTING || operation == CLOSURE) {
                algebra.applyToOne(operation, row(depth - 1));
                return true;
            }
            depth--;
            long[] other = row(depth);
            if ((operation == QUOTIENT || operation == REMAINDER) && Rows.size(other) == 0) {
                return false;
            }
            algebra.applyToTwo(operation, row(depth - 1), other);
            return true;
        }

        private long[] push() {
            long[] row = row(depth);
            Arrays.fill(row, 0L);
            depth++;
            return row;
        }

        private void pushFamily(Family[] families, int number) {
            long[] row = push();
            if (number >= 0 && number < families.length && families[number] != null) {
                Rows.copy(families[number].row, row);
            }
        }

        private long[] row(int at) {
            int place = Math.max(0, Math.min(at, MOST_ROWS - 1));
            if (rows[place] == null) {
                rows[place] = new long[WORDS];
            }
            return rows[place];
        }
    }
}
