/** Where to keep watch: each road joins two of the posts a to e, and each road must have a watched end. */
final class Example {
    public static void main(String[] args) {
        FamilyStore store = new FamilyStore();
        int roads = evaluate(store, "ab + bc + cd + de + ea");
        int choices = evaluate(store, "hit(#0)");
        System.out.println("roads " + written(store, roads));
        System.out.println("choices " + written(store, choices));
        System.out.println("with post a " + store.countWith(choices, 0) + " of " + store.count(choices));

        int[] costs = {5, 2, 4, 1, 3};
        for (int post = 0; post < costs.length; post++) {
            store.setCost(post, costs[post]);
        }
        System.out.println("cost from " + store.leastCost(choices) + ", in the mean " + store.meanCost(choices));
        int kept = store.enumerate(choices, 9, 2);
        for (int i = 0; i < kept; i++) {
            System.out.println("cheap " + written(store, store.single(store.enumerated(i))));
        }

        int withBoth = evaluate(store, "#1 / be");
        System.out.println("b and e need also " + written(store, withBoth));
        System.out.println("families left " + store.release(withBoth));
        try {
            evaluate(store, "#1 & (ab + acb");
        } catch (IllegalArgumentException refused) {
            System.out.println("an error at " + store.errorPosition());
        }
    }

    /** Feeds the text twenty bytes at a time, cuts off what is too many, and evaluates it. */
    private static int evaluate(FamilyStore store, String text) {
        int[] fed = new int[5];
        for (int at = 0; at < text.length(); at += 20) {
            for (int i = 0; i < 20; i++) {
                int sign = at + i < text.length() ? text.charAt(at + i) : ' ';
                fed[i / 4] = fed[i / 4] << 8 | sign;
            }
            store.feed(fed[0], fed[1], fed[2], fed[3], fed[4]);
        }
        store.trim(text.length());
        return store.evaluate();
    }

    /** Writes a family to the output, and takes the text from there byte by byte. */
    private static String written(FamilyStore store, int family) {
        int length = store.write(family);
        StringBuilder out = new StringBuilder();
        for (int i = 0; i < length; i++) {
            out.append((char) store.outputByte(i));
        }
        return out.toString();
    }
}
