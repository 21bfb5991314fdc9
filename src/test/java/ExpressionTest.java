import java.util.NoSuchElementException;

/** What texts mean, where they are wrong, and the examples of the document. */
final class ExpressionTest {
    public static void main(String[] args) {
        meanings();
        order();
        tokens();
        errors();
        numbers();
        depth();
        bytes();
        examples();
        Check.end("ExpressionTest");
    }

    private static void means(String text, String due) {
        Check.same(text, Check.result(text), due);
    }

    private static void wrong(FamilyStore store, String text, int position) {
        Check.put(store, text);
        Check.refuses(text, IllegalArgumentException.class, () -> store.evaluate());
        Check.same("error in " + text, store.errorPosition(), position);
    }

    private static void wrong(String text, int position) {
        wrong(new FamilyStore(), text, position);
    }

    private static void meanings() {
        means("0", "0");
        means("1", "1");
        means("a", "a");
        means("lka", "akl");
        means("abcdefghijkl", "abcdefghijkl");
        means("a + b", "a+b");
        means("a + b - a", "b");
        means("a + b & a + c", "a+c");
        means("(a + bc) * (d + 1)", "a+bc+ad+bcd");
        means("(ab + ac) / (b + c)", "a");
        means("(ab + ac + d) % (b + c)", "d");
        means("max(a + ab)", "ab");
        means("min(a + ab)", "a");
        means("hit(ab + c)", "ac+bc");
        means("sub(ab)", "1+a+b+ab");
        means("max(min(hit(sub(ab))))", "0");
        means("hit(0)", "1");
        means("(((a)))", "a");
    }

    private static void order() {
        means("a - b - a", "0");
        means("a - (b - b)", "a");
        means("a + b * c", "a+bc");
        means("(a + b) * c", "ac+bc");
        means("a & a * b", "0");
        means("a + b & b", "b");
        means("b & b + a", "a+b");
        means("abc / a / b", "c");
        means("abc / (a / a)", "abc");
        means("a * b / a", "b");
        means("abc % a * b", "0");
        means("(a + b) % a * c", "bc");
        means("(a + bc) / b * d", "cd");
        means("a * b % b + c", "c");
        means("a - a * 1 - b", "0");
    }

    private static void tokens() {
        means("  a+b  ", "a+b");
        means("max ( a ) ", "a");
        means("a   *b", "ab");
        FamilyStore store = new FamilyStore();
        Check.eval(store, "ab");
        Check.same("# 0", Check.eval(store, " #  0 "), 1);
        Check.same("#000000000", Check.eval(store, "#000000000*c"), 2);
        Check.same("its sets", Check.written(store, 2), "abc");
        Check.same("#01+#1", Check.eval(store, "#01+#1"), 3);
        Check.same("a family stands for itself twice", Check.eval(store, "#2 - #2 + #2 * #2"), 4);
        Check.same("sets of that", Check.written(store, 4), "abc");
        Check.same("operands do not change", Check.written(store, 2), "abc");
    }

    private static void errors() {
        wrong("", 0);
        wrong("   ", 3);
        wrong("+", 0);
        wrong("a +", 3);
        wrong("a +  ", 5);
        wrong("a b", 2);
        wrong("a 0", 2);
        wrong("a1", 1);
        wrong("0a", 1);
        wrong("a (b)", 2);
        wrong("a + * b", 4);
        wrong("()", 1);
        wrong("(a", 2);
        wrong("(a +)", 4);
        wrong("a)", 1);
        wrong("(a))", 3);
        wrong("ab + (c", 7);
        wrong("abca", 0);
        wrong("a + aa", 4);
        wrong("am", 0);
        wrong("m", 0);
        wrong("maxi", 0);
        wrong("ma", 0);
        wrong("maxmin(a)", 0);
        wrong("a xyz", 2);
        wrong("max", 3);
        wrong("max  ", 5);
        wrong("max a", 4);
        wrong("max + a", 4);
        wrong("max()", 4);
        wrong("max(a", 5);
        wrong("max max(a)", 4);
        wrong("min xyz", 4);
        wrong("hit #0", 4);
        wrong("sub $", 4);
        wrong("a + abcdefghijkla", 4);
        wrong("a $", 2);
        wrong("$", 0);
        wrong("A", 0);
        wrong("a,b", 1);
        wrong("a + xyz + $", 4);
        wrong("a - - b", 4);
        wrong("a\tb", 1);
        wrong("a {", 2);
        wrong("a + `", 4);
    }

    private static void numbers() {
        FamilyStore store = new FamilyStore();
        Check.eval(store, "a");
        Check.eval(store, "b");
        store.release(1);
        wrong(store, "2", 0);
        wrong(store, "00", 0);
        wrong(store, "01", 0);
        wrong(store, "a + 10", 4);
        wrong(store, "9", 0);
        wrong(store, "#", 1);
        wrong(store, "#  ", 3);
        wrong(store, "#a", 1);
        wrong(store, "##0", 1);
        wrong(store, "#(0)", 1);
        wrong(store, "#1", 1);
        wrong(store, "a + # 1", 6);
        wrong(store, "#2", 1);
        wrong(store, "#200", 1);
        wrong(store, "#999999999", 1);
        wrong(store, "#0000000000", 1);
        wrong(store, "#99999999999999999999", 1);
        wrong(store, "#0 0", 3);
        wrong(store, "0 #0", 2);
        wrong(store, "#0a", 2);
        wrong(store, "#1 + $", 1);
        Check.same("nothing created", store.createdCount(), 2);
    }

    private static void depth() {
        String open = "(".repeat(20);
        String closed = ")".repeat(20);
        means(open + "a" + closed, "a");
        wrong("(" + open + "a" + closed + ")", 20);
        wrong(open + "max(a)" + closed, 23);
        wrong(open + "(", 20);
        wrong(open, 20);
        wrong("a + " + open + " (", 25);
        means(open + "a" + closed + "*" + open + "b" + closed, "ab");
        means("max(".repeat(20) + "a" + closed, "a");
        wrong("max(".repeat(20) + "sub(a)" + closed, 83);
        means("(a)+".repeat(40) + "b", "a+b");
        // As many values wait as can: a sum and a product before each bracket.
        means("a+b*(".repeat(20) + "c" + closed, "a+ab+bc");
        means("a+b*(".repeat(20) + "c+d*e" + closed, "a+ab+bc+bde");
        means("l-l*(".repeat(20) + "l" + closed, "l");
        means("l-l*(".repeat(19) + "l" + ")".repeat(19), "0");
        means("a*".repeat(99) + "b", "ab");
        means("a+".repeat(99) + "l", "a+l");
    }

    private static void bytes() {
        for (int sign = 0; sign < 256; sign++) {
            char letter = (char) sign;
            boolean known = letter == ' ' || letter >= 'a' && letter <= 'l';
            FamilyStore store = new FamilyStore();
            Check.put(store, "b+" + letter + (letter == ' ' ? "c" : ""));
            Object got = Check.outcome(() -> store.evaluate());
            boolean zeroOrOne = sign == '0' || sign == '1';
            if (known || zeroOrOne) {
                Check.same("sign " + sign, got, 0);
            } else {
                int due = sign == '(' || sign == '#' ? 3 : 2;
                Check.same("sign " + sign, got, "throws IllegalArgumentException");
                Check.same("error at sign " + sign, store.errorPosition(), due);
            }
        }
    }

    private static void examples() {
        FamilyStore one = new FamilyStore();
        Check.same("1a", Check.eval(one, "ab + bc + c"), 0);
        Check.same("1b", one.write(0), 7);
        Check.same("1c", one.count(0), 3);
        Check.same("1d", Check.eval(one, "max(#0)"), 1);
        Check.same("1e", one.write(1), 5);
        Check.same("1f", Check.eval(one, "hit(#0)"), 2);
        Check.same("1g", one.write(2), 5);
        FamilyStore two = new FamilyStore();
        Check.same("2a", Check.eval(two, "a * (b + c) + d"), 0);
        Check.same("2b", two.write(0), 7);
        Check.same("2c", Check.eval(two, "b + c"), 1);
        Check.same("2d", two.quotient(0, 1), 2);
        Check.same("2e", two.write(2), 1);
        Check.same("2f", two.remainder(0, 1), 3);
        Check.same("2g", two.write(3), 1);
        FamilyStore three = new FamilyStore();
        Check.same("3a", three.subsetsOf(7, 2), 0);
        Check.same("3b", three.setCost(0, 5), 0);
        Check.same("3c", three.setCost(1, 2), 0);
        Check.same("3d", three.enumerate(0, 10, 2), 2);
        Check.same("3e", three.enumerated(0), 6);
        Check.same("3f", three.enumerated(1), 5);
        Check.same("3g", three.leastCost(0), 2);
        Check.same("3h", three.meanCost(0), 4.666666666666667);
        FamilyStore four = new FamilyStore();
        wrong(four, "ab + (c", 7);
        wrong(four, "abca", 0);
        Check.same("4a", Check.eval(four, "max(1)"), 0);
        Check.same("4b", four.release(0), 0);
        Check.refuses("4c", NoSuchElementException.class, () -> four.count(0));
    }
}
