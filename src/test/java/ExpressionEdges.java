/** The edges of what the description says of expressions, and of where their errors stand. */
final class ExpressionEdges {
    private static final String OPEN_20 = "(".repeat(20);
    private static final String CLOSED_20 = ")".repeat(20);

    private ExpressionEdges() {
    }

    static void run() {
        blanks();
        tokens();
        signs();
        signsBehindTokens();
        operators();
        factors();
        words();
        familyNumbers();
        otherNumbers();
        depth();
        firstError();
        earlyEnds();
    }

    /** Evaluates a text in a store whose families are: 0 is a, 1 was released, 2 is b. */
    private static FamilyStore store() {
        FamilyStore store = Check.with("a", "c", "b");
        store.release(1);
        return store;
    }

    private static void means(String name, String text, String due) {
        Check.test("expression: " + name + " (" + text + ")", () -> {
            FamilyStore store = store();
            Check.same("number", Check.eval(store, text), 3);
            Check.same("value", Check.written(store, 3), due);
            Check.same("error", store.errorPosition(), -1);
        });
    }

    private static void wrong(String name, String text, int position) {
        Check.test("expression: " + name + " (" + text + ")", () -> {
            FamilyStore store = store();
            Check.put(store, text);
            Check.refuses("evaluate", Check.ARGUMENT, () -> store.evaluate());
            Check.same("position", store.errorPosition(), position);
            Check.same("nothing is created", store.createdCount(), 3);
        });
    }

    private static void blanks() {
        means("blanks between all tokens", " max  ( #  0 * ( b  +  1 )  )  ", "ab");
        means("no blanks at all", "max(#0*(b+1))", "ab");
        means("blanks before the first token", "    ab", "ab");
        means("blanks behind the last token", "ab    ", "ab");
        wrong("a blank ends a word", "a b", 2);
        wrong("a blank ends a function's word", "ma x(a)", 0);
        wrong("a blank ends a number", "# 0 0", 4);
        for (int sign : new int[] {0, 9, 10, 13, 31, 33, 160}) {
            Check.test("expression: the byte " + sign + " is no blank", () -> {
                FamilyStore store = store();
                Check.put(store, "a " + (char) sign + "+ b");
                Check.refuses("evaluate", Check.ARGUMENT, () -> store.evaluate());
                Check.same("position", store.errorPosition(), 2);
            });
        }
    }

    private static void tokens() {
        wrong("a word takes as many letters as there are", "maxa(b)", 0);
        wrong("two functions' words without a blank are one word", "maxmin(b)", 0);
        wrong("a number takes as many digits as there are", "#02000", 1);
        wrong("a digit ends a word", "a0", 1);
        wrong("a letter ends a number", "0a", 1);
        wrong("a letter ends a number behind #", "#0a", 2);
        means("symbols need no blanks around them", "(#0+#2)-#0", "b");
        wrong("a capital is no letter", "A", 0);
        wrong("a capital ends a word", "abC", 2);
    }

    /** Each of the 256 bytes behind "a ": those with which no token begins, and those of tokens that can't be there. */
    private static void signs() {
        for (int sign = 0; sign < 256; sign++) {
            if (" +-&*/%".indexOf(sign) >= 0) {
                continue;
            }
            String after = "a " + (char) sign;
            Check.test("expression: the byte " + sign + " where an operator could stand", () ->
                refusedAt(after, 2));
        }
        for (int sign = 0; sign < 256; sign++) {
            boolean factor = sign >= 'a' && sign <= 'l' || sign == '0' || sign == '1';
            String text = "l+" + (char) sign;
            if (factor) {
                Check.test("expression: the byte " + sign + " is a factor", () ->
                    Check.same(text, Check.eval(new FamilyStore(), text), 0));
            } else {
                boolean opens = sign == ' ' || sign == '(' || sign == '#';
                Check.test("expression: the byte " + sign + " where a factor should stand", () ->
                    refusedAt(text, opens ? 3 : 2));
            }
        }
    }

    /** Each of the 256 bytes right behind a set, a number, a family's number, and a function's word. */
    private static void signsBehindTokens() {
        for (int sign = 0; sign < 256; sign++) {
            char after = (char) sign;
            boolean letter = after >= 'a' && after <= 'z';
            boolean digit = after >= '0' && after <= '9';
            boolean operator = "+-&*/%".indexOf(after) >= 0;
            if (after != ' ' && (after < 'c' || after > 'l')) {
                behind(sign, "ab", letter ? 0 : operator ? 3 : 2);
            }
            if (after != ' ') {
                behind(sign, "1", digit ? 0 : operator ? 2 : 1);
                behind(sign, "#0", digit && after != '0' && after != '2' ? 1 : digit ? -1 : operator ? 3 : 2);
            }
            behind(sign, "max", letter ? 0 : after == ' ' || after == '(' ? 4 : 3);
        }
    }

    private static void behind(int sign, String token, int position) {
        Check.test("expression: the byte " + sign + " right behind " + token, () -> {
            FamilyStore store = store();
            String text = token + (char) sign;
            Check.put(store, text);
            Check.same(text, Check.outcome(() -> store.evaluate()) instanceof Integer, position < 0);
            Check.same("position", store.errorPosition(), position);
        });
    }

    private static void refusedAt(String text, int position) {
        FamilyStore store = new FamilyStore();
        Check.put(store, text);
        Check.refuses(text, Check.ARGUMENT, () -> store.evaluate());
        Check.same("position", store.errorPosition(), position);
    }

    private static void operators() {
        means("+ is union", "a + ab + a", "a+ab");
        means("- is difference", "(a + ab) - a", "ab");
        means("& is intersection", "(a + ab) & (ab + c)", "ab");
        means("* is join", "(a + b) * (b + c)", "b+ab+ac+bc");
        means("/ is quotient", "(ab + ac) / (b + c)", "a");
        means("% is remainder", "(ab + ac + d) % (b + c)", "d");
        means("- is left-associative", "a - a - a", "0");
        means("+ and - are left-associative", "a + b - a - b", "0");
        means("- and + are left-associative", "a - a + a", "a");
        means("& and + are left-associative", "b & a + a", "a");
        means("+ and & are left-associative", "a + b & b", "b");
        means("/ is left-associative", "ab / b / a", "1");
        means("% is left-associative", "(ab + c) % a % a", "c");
        means("/ and * are left-associative", "ab / a * a", "ab");
        means("* and / are left-associative", "a * b / a", "b");
        means("* before +", "a + b * c", "a+bc");
        means("* before -", "ab - a * b", "0");
        means("/ before &", "b & ab / a", "b");
        means("% before +", "a + a % a", "a");
        means("brackets before all", "a * (b + c)", "ab+ac");
        means("a sum of one product", "ab", "ab");
        means("many sums", "a" + "+b+c".repeat(49), "a+b+c");
        means("many products", "a" + "*b*c".repeat(49), "abc");
        wrong("two operators", "a + * b", 4);
        wrong("no sign before a factor", "-a", 0);
        wrong("no factor between two signs", "a - - b", 4);
        wrong("no operator between two sets", "a b", 2);
        wrong("no operator before a bracket", "a (b)", 2);
        wrong("no operator behind a bracket", "(a) b", 4);
        wrong("no operator between brackets", "(a)(b)", 3);
        wrong("no operator between numbers", "0 1", 2);
        wrong("no operator before #", "a #0", 2);
        wrong("no operator before a function", "a max(b)", 2);
    }

    private static void factors() {
        means("0 is the empty family", "0", "0");
        means("1 has the empty set alone", "1", "1");
        means("a set is the family with this set alone", "bl", "bl");
        means("max is maximal", "max(a + ab + c)", "ab+c");
        means("min is minimal", "min(a + ab + c)", "a+c");
        means("hit is hitting", "hit(ab + c)", "ac+bc");
        means("sub is closure", "sub(ab + c)", "1+a+b+ab+c");
        means("a function of a sum", "max(a + ab - ab & a)", "a");
        means("a function on the right side", "c + max(a + ab)", "ab+c");
        means("functions on both sides", "sub(a) - min(1 + a)", "a");
        means("max of the empty family", "max(0)", "0");
        means("min of the empty family", "min(0)", "0");
        means("hit of the empty family", "hit(0)", "1");
        means("hit of the empty set", "hit(1)", "0");
        means("sub of the empty family", "sub(0)", "0");
        wrong("a function without bracket", "max a", 4);
        wrong("a function before an operator", "max + a", 4);
        wrong("a function of a function without bracket", "max min(a)", 4);
        wrong("a function before a word that is no set", "hit xyz", 4);
        wrong("a function of nothing", "sub()", 4);
        wrong("an empty bracket", "()", 1);
        wrong("a bracket that was not opened", "a)", 1);
        wrong("a bracket more than were opened", "(a))", 3);
        wrong("a sum that breaks off in a bracket", "(a +)", 4);
    }

    private static void words() {
        means("a set of all letters, in any order", "lkjihgfedcba", "abcdefghijkl");
        means("the last letter of a set is l", "l", "l");
        wrong("m is no letter of a set", "m", 0);
        wrong("z is no letter of a set", "a + z", 4);
        wrong("m behind other letters", "abm", 0);
        wrong("z behind other letters", "abz", 0);
        wrong("a letter twice", "abca", 0);
        wrong("a letter twice behind all", "b + abcdefghijkll", 4);
        wrong("a letter twice side by side", "aa", 0);
        for (String function : new String[] {"max", "min", "hit", "sub"}) {
            wrong("the word of a function is no set", function, 3);
            wrong("the word of a function is no set before an operator", function + "+a", 3);
            wrong("more letters than a function's word", function + "s(a)", 0);
            wrong("fewer letters than a function's word", function.substring(1) + "(a)", 0);
            wrong("a function's word in other order",
                    new StringBuilder(function).reverse() + "(a)", 0);
        }
        wrong("a word that is no set where no factor can begin", "a xyz", 2);
        wrong("a word that is no set in a bracket", "max(a + (xyz", 9);
    }

    private static void familyNumbers() {
        means("one digit behind #", "#2", "b");
        means("nine digits behind #", "#000000002", "b");
        means("a blank behind #", "#   0", "a");
        wrong("ten digits behind #", "#0000000002", 1);
        wrong("ten digits behind # and a blank", "a + #  0000000000", 7);
        wrong("ten digits that are no family's number", "#9999999999", 1);
        wrong("2 to the 32, which is 0 in an int", "#4294967296", 1);
        wrong("a hundred digits", "#" + "0".repeat(100), 1);
        wrong("the greatest number of nine digits", "#999999999", 1);
        wrong("the number that the result would get", "#3", 1);
        wrong("the number 199 of no family yet", "#199", 1);
        wrong("the number 200", "#200", 1);
        wrong("a released family", "#1", 1);
        wrong("a released family behind a blank", "a * # 1", 6);
        wrong("a set behind #", "#a", 1);
        wrong("a function behind #", "#max(a)", 1);
        wrong("two #", "##0", 1);
        wrong("a bracket behind #", "#(0)", 1);
        wrong("an operator behind #", "# + a", 2);
        wrong("a byte of no token behind #", "# $", 2);
        Check.test("expression: the numbers 198 and 199 in a store that is not full and in one that is", () -> {
            FamilyStore store = new FamilyStore();
            while (store.createdCount() < 199) {
                store.single(1);
            }
            Check.same("#198", Check.eval(store, "#198"), 199);
            Check.put(store, "#199");
            Check.refuses("#199 has no error", Check.STATE, () -> store.evaluate());
            Check.put(store, "#200");
            Check.refuses("#200", Check.ARGUMENT, () -> store.evaluate());
            Check.same("position", store.errorPosition(), 1);
        });
        Check.test("expression: any number behind # in a new store", () -> refusedAt("#0", 1));
    }

    private static void otherNumbers() {
        wrong("a number that is not 0 or 1", "2", 0);
        wrong("the digit 9", "a + 9", 4);
        wrong("0 with two digits", "00", 0);
        wrong("1 with two digits", "01", 0);
        wrong("a number that begins with 1", "10", 0);
        wrong("11", "a * 11", 4);
        wrong("a number of many digits in a bracket", "(a + 1000000000000)", 5);
        wrong("2 to the 32", "4294967296", 0);
    }

    private static void depth() {
        means("20 brackets in one another", OPEN_20 + "a" + CLOSED_20, "a");
        wrong("21 brackets in one another", OPEN_20 + "(a)" + CLOSED_20, 20);
        wrong("the 21st bracket behind an operator", OPEN_20 + "a + (b)" + CLOSED_20, 24);
        means("20 functions in one another", "max(".repeat(20) + "a" + CLOSED_20, "a");
        wrong("the bracket of the 21st function", "max(".repeat(20) + "min (a)" + CLOSED_20, 84);
        wrong("the bracket of a function inside 20 brackets", OPEN_20 + "sub(a)" + CLOSED_20, 23);
        wrong("a bracket inside 20 functions", "hit(".repeat(20) + "(a)" + CLOSED_20, 80);
        means("brackets that are closed again do not count", "(a)+".repeat(40) + "(b)", "a+b");
        means("20 brackets, and 20 again", OPEN_20 + "a" + CLOSED_20 + "+" + OPEN_20 + "b" + CLOSED_20, "a+b");
        means("inside 19 brackets one after the other", OPEN_20 + "a)+(b)+(c)" + ")".repeat(19), "a+b+c");
        wrong("too many brackets before other errors", OPEN_20 + "($", 20);
        wrong("other errors before too many brackets", "$" + OPEN_20 + "(", 0);
        wrong("200 brackets", "(".repeat(200), 20);
        means("as many values wait as can", "a+b*(".repeat(20) + "c+d*e" + CLOSED_20, "a+ab+bc+bde");
    }

    private static void firstError() {
        wrong("the first of two bytes of no token", "a $ $", 2);
        wrong("a number before a word", "#7 + aa", 1);
        wrong("a word before a number", "aa + #7", 0);
        wrong("a bracket before a byte of no token", "a ) $", 2);
        wrong("a byte of no token before an early end", "a + $ + (", 4);
        wrong("a word before a bracket that is not closed", "(xyz", 1);
        wrong("a token that can't be there before its own fault", "a 25", 2);
        wrong("a missing factor before what is missing behind its bracket", "()+", 1);
        wrong("a missing factor before a word behind its bracket", "(a+)b", 3);
        wrong("a missing factor in a function before a bracket more", "max(a*))", 6);
        wrong("an error before an empty right side", "a $ / 0", 2);
        wrong("an error behind an empty right side", "a / 0 $", 6);
        wrong("an error behind an empty right side in a bracket", "(a % 0 + b", 10);
    }

    private static void earlyEnds() {
        wrong("no text", "", 0);
        wrong("one blank", " ", 1);
        wrong("200 blanks", " ".repeat(200), 200);
        wrong("the end behind an operator", "a +", 3);
        wrong("the end behind an operator and blanks", "a *  ", 5);
        wrong("the end behind a bracket", "(", 1);
        wrong("the end in a bracket", "ab + (c", 7);
        wrong("the end in a bracket and a blank", "(a ", 3);
        wrong("the end in the inner of two brackets", "((a)", 4);
        wrong("the end behind a function's word", "max", 3);
        wrong("the end behind a function's word and blanks", "max  ", 5);
        wrong("the end behind a function's bracket", "max(", 4);
        wrong("the end behind #", "#", 1);
        wrong("the end behind # and a blank", "a + # ", 6);
        wrong("the end after 200 bytes", "a+".repeat(100), 200);
    }
}
