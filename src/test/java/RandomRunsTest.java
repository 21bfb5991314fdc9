import java.lang.reflect.InvocationTargetException;
import java.lang.reflect.Method;
import java.lang.reflect.Modifier;
import java.util.Arrays;
import java.util.Comparator;
import java.util.Random;

/** Asks the store and the model the same calls, up to 512 of them on one object; the seeds are fixed. */
final class RandomRunsTest {
    private static final Method[] CALLS = Arrays.stream(FamilyStore.class.getDeclaredMethods())
            .filter(m -> Modifier.isPublic(m.getModifiers()))
            .sorted(Comparator.comparing(Method::getName)).toArray(Method[]::new);
    private static final int CALLS_OF_A_RUN = 512;

    private final Random random;
    private final String name;
    private final int letters;
    private final boolean dense;
    private final FamilyStore store = new FamilyStore();
    private final Model model = new Model();
    private int calls = 0;

    private RandomRunsTest(long seed, int letters, boolean dense) {
        random = new Random(seed);
        name = "run " + seed;
        this.letters = letters;
        this.dense = dense;
    }

    public static void main(String[] args) {
        for (int seed = 0; seed < 60; seed++) {
            new RandomRunsTest(seed, 5, false).run();
        }
        for (int seed = 100; seed < 160; seed++) {
            new RandomRunsTest(seed, 12, false).run();
        }
        for (int seed = 200; seed < 206; seed++) {
            new RandomRunsTest(seed, 12, true).run();
        }
        Check.end("RandomRunsTest");
    }

    private void run() {
        for (int i = 0; i < CALLS_OF_A_RUN && calls < CALLS_OF_A_RUN - 12; i++) {
            int kind = random.nextInt(20);
            if (kind < 3) {
                evaluateText();
            } else if (kind < 6) {
                rebuildFamilies();
            } else {
                anyCall();
            }
        }
        ask("digest");
    }

    private void ask(String method, Object... args) {
        for (Method m : CALLS) {
            if (m.getName().equals(method)) {
                compare(m, args);
            }
        }
    }

    private void compare(Method method, Object[] args) {
        calls++;
        Object due = Check.outcome(() -> {
            try {
                return invoke(Model.class.getMethod(method.getName(), method.getParameterTypes()), model, args);
            } catch (NoSuchMethodException e) {
                throw new Error(e);
            }
        });
        Object got = Check.outcome(() -> invoke(method, store, args));
        Check.same(name + ", call " + calls + ": " + method.getName() + Arrays.toString(args), got, due);
    }

    private static Object invoke(Method method, Object target, Object[] args) {
        try {
            return method.invoke(target, args);
        } catch (InvocationTargetException e) {
            if (e.getCause() instanceof RuntimeException cause) {
                throw cause;
            }
            throw new Error(e.getCause());
        } catch (IllegalAccessException e) {
            throw new Error(e);
        }
    }

    // ---- texts

    private void evaluateText() {
        int most = random.nextInt(4) == 0 ? 200 : 60;
        String text = sum(0);
        for (int n = 0; n < 100 && text.length() > most; n++) {
            text = sum(0);
        }
        text = random.nextInt(4) == 0 ? garble(text) : text;
        text = text.substring(0, Math.min(200, text.length()));
        ask("trim", 0);
        for (int at = 0; at < text.length(); at += 20) {
            Object[] words = new Object[5];
            for (int w = 0; w < 5; w++) {
                int word = 0;
                for (int i = 0; i < 4; i++) {
                    int place = at + 4 * w + i;
                    word = word << 8 | (place < text.length() ? text.charAt(place) : random.nextInt(256));
                }
                words[w] = word;
            }
            ask("feed", words);
        }
        ask("trim", text.length());
        ask("evaluate");
        ask("errorPosition");
    }

    private String blanks() {
        return random.nextInt(5) == 0 ? " ".repeat(1 + random.nextInt(3)) : "";
    }

    private String sum(int depth) {
        StringBuilder out = new StringBuilder(product(depth));
        for (int n = random.nextInt(3); n > 0; n--) {
            out.append("+-&".charAt(random.nextInt(3))).append(product(depth));
        }
        return out.toString();
    }

    private String product(int depth) {
        StringBuilder out = new StringBuilder(factor(depth));
        for (int n = random.nextInt(5) / 2; n > 0; n--) {
            out.append("*/%*".charAt(random.nextInt(4))).append(factor(depth));
        }
        return out.toString();
    }

    private String factor(int depth) {
        int kind = random.nextInt(depth > 3 ? 6 : 10);
        String inner;
        if (kind < 3) {
            inner = set();
        } else if (kind < 5) {
            inner = "#" + blanks() + random.nextInt(model.createdCount() + 1);
        } else if (kind == 5) {
            inner = random.nextInt(3) == 0 ? "0" : "1";
        } else if (kind < 9) {
            inner = "(" + sum(depth + 1) + blanks() + ")";
        } else {
            String[] functions = {"max", "min", "hit", "sub"};
            inner = functions[random.nextInt(4)] + blanks() + "(" + sum(depth + 1) + ")";
        }
        return blanks() + inner + blanks();
    }

    private String set() {
        StringBuilder out = new StringBuilder();
        int mask = random.nextInt(1 << letters) & (random.nextBoolean() ? -1 : random.nextInt(1 << letters));
        for (int element = 0; element < 12; element++) {
            if ((mask & 1 << element) != 0) {
                out.insert(random.nextInt(out.length() + 1), (char) ('a' + element));
            }
        }
        return out.length() == 0 ? "a" : out.toString();
    }

    private String garble(String text) {
        StringBuilder out = new StringBuilder(text);
        String signs = "()#+-&*/%0123aablmz !$\u00e9\u0000\n";
        for (int n = 1 + random.nextInt(3); n > 0; n--) {
            int at = random.nextInt(out.length() + 1);
            char sign = signs.charAt(random.nextInt(signs.length()));
            if (random.nextBoolean() || at == out.length()) {
                out.insert(at, sign);
            } else if (random.nextBoolean()) {
                out.setCharAt(at, sign);
            } else {
                out.deleteCharAt(at);
            }
        }
        return out.toString();
    }

    // ---- calls with arguments that are mostly good

    private void rebuildFamilies() {
        if (dense) {
            ask("setCost", random.nextInt(12), random.nextInt(21) - 10);
            ask("subsetsOf", random.nextInt(4) == 0 ? 4095 : mask(), random.nextInt(3) == 0 ? -1 : random.nextInt(12));
            ask("withCost", model.createdCount() - 1, -random.nextInt(20), random.nextInt(20));
        } else {
            ask("single", mask());
            ask(random.nextInt(3) == 0 ? "join" : "union", family(), model.createdCount() - 1);
        }
    }

    private void anyCall() {
        Method method = CALLS[random.nextInt(CALLS.length)];
        String call = method.getName();
        if (call.equals("evaluate") || call.equals("feed") || call.equals("release") && random.nextInt(3) == 0) {
            return;
        }
        Object[] args = new Object[method.getParameterCount()];
        for (int i = 0; i < args.length; i++) {
            args[i] = random.nextInt(40) == 0 ? extreme() : argument(call, i);
        }
        compare(method, args);
        if (call.equals("write")) {
            ask("outputByte", random.nextInt(20));
        }
        if (call.equals("enumerate")) {
            for (int i = 0; i < 3; i++) {
                ask("enumerated", random.nextInt(10) == 0 ? random.nextInt(301) : i);
            }
        }
    }

    private int argument(String call, int place) {
        if (call.equals("trim")) {
            return random.nextInt(20);
        }
        if (call.equals("single") || call.equals("subsetsOf") && place == 0) {
            return mask();
        }
        if (call.equals("subsetsOf")) {
            return random.nextInt(15) - 1;
        }
        if (call.equals("outputByte") || call.equals("enumerated")) {
            return random.nextInt(30);
        }
        if (call.equals("setCost")) {
            return place == 0 ? random.nextInt(12) : cost();
        }
        if (place == 0 || call.equals("areEqual")) {
            return family();
        }
        if (call.equals("change") || call.equals("countWith") || call.equals("countOfSize")) {
            return random.nextInt(13);
        }
        if (call.equals("contains") || call.equals("indexOf")) {
            return mask();
        }
        if (call.equals("setAt")) {
            return random.nextInt(dense ? 200 : 12);
        }
        if (call.equals("enumerate")) {
            return place == 1 ? Math.abs(cost()) : 1 + random.nextInt(random.nextBoolean() ? 10 : 300);
        }
        return call.equals("withCost") ? place == 1 ? -Math.abs(cost()) : Math.abs(cost()) : family();
    }

    private int mask() {
        return random.nextInt(1 << letters);
    }

    private int cost() {
        return random.nextBoolean() ? random.nextInt(11) - 5 : random.nextInt(2001) - 1000;
    }

    private int family() {
        int made = model.createdCount();
        if (made == 0 || random.nextInt(25) == 0) {
            return made;
        }
        int f = random.nextInt(made);
        for (int n = 0; n < 3 && model.isDull(f); n++) {
            f = Math.max(random.nextInt(made), random.nextInt(made));
        }
        return f;
    }

    private int extreme() {
        int[] values = {-1, 12, 13, 200, 201, 300, 301, 1000, 1001, -1000, -1001, 4095, 4096,
            Integer.MAX_VALUE, Integer.MIN_VALUE, 0};
        return values[random.nextInt(values.length)];
    }
}
