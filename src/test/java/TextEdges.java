/** The edges of promises 1 to 7: the new object, the text, its evaluation, and the output. */
final class TextEdges {
    private TextEdges() {
    }

    static void run() {
        newObject();
        bytesOfFeed();
        roomOfFeed();
        trim();
        bufferAfterEvaluate();
        evaluateRefusals();
        orderOfEvaluate();
        errorPosition();
        write();
        writeLimit();
        outputByte();
    }

    private static void newObject() {
        Check.test("promise 1 FamilyStore: there are no families", () -> {
            FamilyStore store = new FamilyStore();
            Check.same("created", store.createdCount(), 0);
            Check.refuses("family 0", Check.INDEX, () -> store.count(0));
            Check.same("the first number", store.single(1), 0);
        });
        Check.test("promise 1 FamilyStore: the text buffer is empty", () -> {
            FamilyStore store = new FamilyStore();
            Check.refuses("a byte to keep", Check.ARGUMENT, () -> store.trim(1));
            Check.same("bytes after feed", store.feed(0, 0, 0, 0, 0), 20);
        });
        Check.test("promise 1 FamilyStore: the output is empty", () -> {
            FamilyStore store = new FamilyStore();
            Check.refuses("byte 0", Check.INDEX, () -> store.outputByte(0));
        });
        Check.test("promise 1 FamilyStore: a second store shares nothing with the first", () -> {
            Scene scene = Scene.small();
            FamilyStore store = new FamilyStore();
            Check.same("created", store.createdCount(), 0);
            Check.same("nodes", store.nodeCount(), 0);
            Check.same("error", store.errorPosition(), -1);
            Check.same("cost of a", store.setCost(0, 9), 0);
            Check.refuses("text", Check.ARGUMENT, () -> store.trim(1));
            Check.refuses("output", Check.INDEX, () -> store.outputByte(0));
            Check.refuses("list", Check.INDEX, () -> store.enumerated(0));
            store.single(2);
            scene.changedNothing("a second store");
        });
    }

    /** The place of a byte is seen where an error stands: in "a+a+a+.." a sign that is no token's, at each place. */
    private static void bytesOfFeed() {
        String[] parameters = {"a: bytes 1 to 4", "b: bytes 5 to 8", "c: bytes 9 to 12", "d: bytes 13 to 16",
            "e: bytes 17 to 20"};
        for (int parameter = 0; parameter < 5; parameter++) {
            int start = 4 * parameter;
            Check.test("promise 2 feed: parameter " + parameters[parameter] + ", the highest first", () -> {
                for (int at = start; at < start + 4; at++) {
                    StringBuilder text = new StringBuilder("a+".repeat(10));
                    text.setCharAt(at, '$');
                    errorIn(new FamilyStore(), text.toString(), at);
                }
            });
        }
        Check.test("promise 2 feed: bytes from 128 to 255 are bytes like others", () -> {
            for (int sign = 128; sign < 256; sign++) {
                FamilyStore store = new FamilyStore();
                store.feed('a' << 24 | '+' << 16 | sign << 8 | 'b', -1, -1, -1, Integer.MIN_VALUE);
                Check.refuses("byte " + sign, Check.ARGUMENT, () -> store.evaluate());
                Check.same("position of byte " + sign, store.errorPosition(), 2);
            }
        });
        Check.test("promise 2 feed: a parameter whose highest byte is 128 or more", () -> {
            FamilyStore store = new FamilyStore();
            store.feed(0x80202020, 0x20202020, 0x20202020, 0x20202020, 0x20202020);
            Check.refuses("byte 128", Check.ARGUMENT, () -> store.evaluate());
            Check.same("position", store.errorPosition(), 0);
        });
        Check.test("promise 2 feed: a parameter below 0 leaves the bytes before it as they are", () -> {
            FamilyStore store = new FamilyStore();
            store.feed('a' << 24 | 0x202020, 0xffffffff, 0, 0, 0);
            store.trim(4);
            Check.same("evaluate", store.evaluate(), 0);
            Check.same("a", Check.written(store, 0), "a");
        });
        Check.test("promise 2 feed: a byte 0 counts", () -> {
            FamilyStore store = new FamilyStore();
            Check.same("bytes", store.feed('a' << 24, 0, 0, 0, 0), 20);
            Check.refuses("byte 0", Check.ARGUMENT, () -> store.evaluate());
            Check.same("position", store.errorPosition(), 1);
        });
        Check.test("promise 2 feed: the bytes are appended behind those that are there", () -> {
            FamilyStore store = new FamilyStore();
            store.feed('a' << 24 | '*' << 16 | '(' << 8 | 'b', '+' << 24 | 0x202020, 0, 0, 0);
            store.trim(6);
            Check.same("bytes", store.feed('c' << 24 | ')' << 16 | 0x2020, 0, 0, 0, 0), 26);
            store.trim(9);
            Check.same("evaluate", store.evaluate(), 0);
            Check.same("a * (b + c)", Check.written(store, 0), "ab+ac");
        });
    }

    private static void errorIn(FamilyStore store, String text, int position) {
        Check.put(store, text);
        Check.refuses(text, Check.ARGUMENT, () -> store.evaluate());
        Check.same("position in " + text, store.errorPosition(), position);
    }

    private static FamilyStore fed(int bytes) {
        FamilyStore store = new FamilyStore();
        Check.put(store, "b".repeat(bytes));
        return store;
    }

    private static void roomOfFeed() {
        Check.test("promise 2 feed: returns how many bytes there are, up to 200", () -> {
            FamilyStore store = new FamilyStore();
            for (int i = 1; i <= 10; i++) {
                Check.same("bytes", store.feed(0, 0, 0, 0, 0), 20 * i);
            }
        });
        Check.test("promise 2 feed: with 180 bytes there is room", () ->
            Check.same("bytes", fed(180).feed(0, 0, 0, 0, 0), 200));
        Check.test("promise 2 feed: with 181 bytes there would be more than 200", () -> {
            FamilyStore store = fed(181);
            Check.refuses("201 bytes", Check.STATE, () -> store.feed(0, 0, 0, 0, 0));
        });
        Check.test("promise 2 feed: with 199 bytes there would be more than 200", () -> {
            FamilyStore store = fed(199);
            Check.refuses("219 bytes", Check.STATE, () -> store.feed(0, 0, 0, 0, 0));
        });
        Check.test("promise 2 feed: with 200 bytes there would be more than 200", () -> {
            FamilyStore store = fed(200);
            Check.refuses("220 bytes", Check.STATE, () -> store.feed(0, 0, 0, 0, 0));
        });
        Check.test("promise 2 feed: a refused call leaves the text as it is", () -> {
            FamilyStore store = new FamilyStore();
            Check.put(store, "a+".repeat(94) + "bc");
            Check.refuses("210 bytes", Check.STATE, () -> store.feed('*' << 24, 0, 0, 0, 0));
            Check.refuses("no byte more", Check.ARGUMENT, () -> store.trim(191));
            Check.same("evaluate", store.evaluate(), 0);
            Check.same("a + bc", Check.written(store, 0), "a+bc");
        });
        Check.test("promise 2 feed: a refused call changes nothing", () -> {
            Scene scene = Scene.small();
            for (int i = 0; i < 9; i++) {
                scene.store.feed(0, 0, 0, 0, 0);
            }
            scene.refuses("206 bytes", Check.STATE, () -> {
                Object refused = Check.outcome(() -> scene.store.feed(0, 0, 0, 0, 0));
                scene.store.trim(Scene.TEXT.length());
                if (!refused.equals("throws IllegalStateException")) {
                    return refused;
                }
                throw new IllegalStateException();
            });
        });
        Check.test("promise 2 feed: evaluate makes room again", () -> {
            FamilyStore store = fed(200);
            Check.refuses("a word with b twice", Check.ARGUMENT, () -> store.evaluate());
            Check.same("bytes", store.feed(0, 0, 0, 0, 0), 20);
        });
    }

    private static void trim() {
        Check.test("promise 3 trim: to 0 bytes", () -> {
            FamilyStore store = fed(20);
            Check.same("kept", store.trim(0), 0);
            Check.refuses("none left", Check.ARGUMENT, () -> store.trim(1));
        });
        Check.test("promise 3 trim: 0 bytes of an empty buffer", () ->
            Check.same("kept", new FamilyStore().trim(0), 0));
        Check.test("promise 3 trim: to as many bytes as there are", () -> {
            FamilyStore store = fed(200);
            Check.same("kept", store.trim(200), 200);
            Check.same("again", store.trim(200), 200);
        });
        Check.test("promise 3 trim: one byte less than there are", () -> {
            FamilyStore store = fed(200);
            Check.same("kept", store.trim(199), 199);
            Check.refuses("200 are no longer there", Check.ARGUMENT, () -> store.trim(200));
        });
        Check.test("promise 3 trim: the first bytes are kept", () -> {
            FamilyStore store = new FamilyStore();
            Check.put(store, "abc + def");
            Check.same("kept", store.trim(2), 2);
            Check.same("evaluate", store.evaluate(), 0);
            Check.same("ab", Check.written(store, 0), "ab");
        });
        trimRefusal("a negative n", -1);
        trimRefusal("the least int", Integer.MIN_VALUE);
        trimRefusal("one byte more than there are", Scene.TEXT.length() + 1);
        trimRefusal("201 bytes", 201);
        trimRefusal("the greatest int", Integer.MAX_VALUE);
        Check.test("promise 3 trim: bytes that were there before do not count", () -> {
            FamilyStore store = fed(40);
            store.trim(7);
            Check.refuses("8 bytes", Check.ARGUMENT, () -> store.trim(8));
            Check.same("7 bytes", store.trim(7), 7);
        });
    }

    private static void trimRefusal(String name, int n) {
        Check.test("promise 3 trim: " + name, () -> {
            Scene scene = Scene.small();
            scene.refuses("trim " + n, Check.ARGUMENT, () -> scene.store.trim(n));
            Check.same("the text as it was", Check.written(scene.store, scene.store.evaluate()), "1+ab+c+abl");
        });
    }

    private static void bufferAfterEvaluate() {
        afterEvaluate("after a result", "a+b", 0);
        afterEvaluate("after an error in the text", "a+$", "throws IllegalArgumentException");
        afterEvaluate("after an empty right side", "a/0", "throws ArithmeticException");
        Check.test("promise 4 evaluate: the buffer is empty after a text in a full store", () -> {
            FamilyStore full = Scene.full().store;
            Check.refuses("evaluate", Check.STATE, () -> full.evaluate());
            Check.refuses("a byte to keep", Check.ARGUMENT, () -> full.trim(1));
        });
        Check.test("promise 4 evaluate: an empty buffer", () -> errorIn(new FamilyStore(), "", 0));
        Check.test("promise 4 evaluate: a buffer of 200 bytes", () -> {
            FamilyStore store = new FamilyStore();
            Check.same("number", Check.eval(store, "ab+".repeat(66) + "cd"), 0);
            Check.same("sets", Check.written(store, 0), "ab+cd");
        });
        Check.test("promise 4 evaluate: only the result gets a number", () -> {
            FamilyStore store = Check.with("a", "max(sub(ab) - 1) * (#0 + (c * d) % e)");
            Check.same("created", store.createdCount(), 2);
        });
        Check.test("promise 4 evaluate: the value of a family is a new family", () -> {
            FamilyStore store = Check.with("a");
            Check.same("number", Check.eval(store, "#0"), 1);
            store.release(0);
            Check.same("it is there without the other", Check.written(store, 1), "a");
        });
    }

    private static void afterEvaluate(String name, String text, Object due) {
        Check.test("promise 4 evaluate: the buffer is empty " + name, () -> {
            FamilyStore store = new FamilyStore();
            Check.put(store, text);
            Check.same("evaluate", Check.outcome(() -> store.evaluate()), due);
            Check.refuses("a byte to keep", Check.ARGUMENT, () -> store.trim(1));
            Check.same("bytes of the next feed", store.feed(0, 0, 0, 0, 0), 20);
        });
    }

    private static void evaluateRefusals() {
        evaluateInFullStore();
        String[] divisions = {"a/0", "a%0", "1/(b-b)", "ab%max(0)", "0/0", "0%0", "a/(0/a)", "b+c*(a/(a&b))", "a/#0",
            "a%#0"};
        for (String text : divisions) {
            Check.test("promise 4 evaluate: the right side is the empty family in " + text, () -> {
                FamilyStore store = Check.with("0");
                long before = store.digest();
                Check.put(store, text);
                Check.refuses(text, Check.ARITHMETIC, () -> store.evaluate());
                Check.same("nothing is created", store.digest(), before);
            });
        }
        for (String text : new String[] {"0/a", "0%a", "0/1", "0*0", "0&0", "hit(0)/a%a"}) {
            Check.test("promise 4 evaluate: no right side of / or % is empty in " + text, () -> {
                FamilyStore store = new FamilyStore();
                Check.same(text, Check.eval(store, text), 0);
                Check.same("its sets", Check.written(store, 0), "0");
            });
        }
        evaluateChangesNothing("with an error in the text", false, "a +", "throws IllegalArgumentException");
        evaluateChangesNothing("with an empty right side", false, "a / 0", "throws ArithmeticException");
        evaluateChangesNothing("in a full store", true, "a", "throws IllegalStateException");
    }

    private static void evaluateInFullStore() {
        Check.test("promise 4 evaluate: 200 families have been created", () -> {
            FamilyStore full = Scene.full().store;
            full.trim(0);
            Check.put(full, "a");
            Check.refuses("the 201st family", Check.STATE, () -> full.evaluate());
        });
        Check.test("promise 4 evaluate: 199 families leave room for one more", () -> {
            FamilyStore store = new FamilyStore();
            while (store.createdCount() < 199) {
                store.single(1);
            }
            Check.same("the 200th family", Check.eval(store, "a"), 199);
            Check.put(store, "a");
            Check.refuses("the 201st family", Check.STATE, () -> store.evaluate());
        });
        Check.test("promise 4 evaluate: 200 families have been created, and one is released afterwards", () -> {
            FamilyStore full = Scene.full().store;
            full.release(199);
            Check.refuses("the 201st family", Check.STATE, () -> full.evaluate());
        });
    }

    private static void evaluateChangesNothing(String name, boolean full, String text, String due) {
        Check.test("promise 4 evaluate: a call that is refused " + name + " changes nothing but the text", () -> {
            Scene scene = full ? Scene.full() : Scene.small();
            String before = scene.seenBesideText();
            scene.store.trim(0);
            Check.put(scene.store, text);
            Check.same(text, Check.outcome(() -> scene.store.evaluate()), due);
            Check.same("all else", scene.seenBesideText(), before);
        });
    }

    private static void orderOfEvaluate() {
        Check.test("promise 4 evaluate: an error in the text is told before 200 families", () -> {
            FamilyStore full = Scene.full().store;
            full.trim(0);
            errorIn(full, "a + ", 4);
        });
        Check.test("promise 4 evaluate: an error in the text is told before an empty right side", () ->
            errorIn(new FamilyStore(), "a / 0 + $", 8));
        Check.test("promise 4 evaluate: 200 families are told before an empty right side", () -> {
            FamilyStore full = Scene.full().store;
            full.trim(0);
            Check.put(full, "a / 0");
            Check.refuses("a / 0", Check.STATE, () -> full.evaluate());
        });
    }

    private static void errorPosition() {
        Check.test("promise 5 errorPosition: -1 before the first evaluate", () -> {
            FamilyStore store = new FamilyStore();
            Check.same("new", store.errorPosition(), -1);
            Check.put(store, "$");
            Check.same("fed", store.errorPosition(), -1);
        });
        Check.test("promise 5 errorPosition: -1 after a text without error", () -> {
            FamilyStore store = new FamilyStore();
            errorIn(store, "a $", 2);
            Check.eval(store, "a");
            Check.same("position", store.errorPosition(), -1);
        });
        Check.test("promise 5 errorPosition: -1 after an empty right side, which is no error of the text", () -> {
            FamilyStore store = new FamilyStore();
            errorIn(store, "a $", 2);
            Check.put(store, "a / 0");
            Check.refuses("a / 0", Check.ARITHMETIC, () -> store.evaluate());
            Check.same("position", store.errorPosition(), -1);
        });
        Check.test("promise 5 errorPosition: -1 after a good text in a full store", () -> {
            FamilyStore full = Scene.full().store;
            Check.same("before", full.errorPosition(), Scene.ERROR_POSITION);
            Check.refuses("evaluate", Check.STATE, () -> full.evaluate());
            Check.same("position", full.errorPosition(), -1);
        });
        Check.test("promise 5 errorPosition: that of the latest of two errors", () -> {
            FamilyStore store = new FamilyStore();
            errorIn(store, "a + b $", 6);
            errorIn(store, "$", 0);
        });
        Check.test("promise 5 errorPosition: 0 and 200 are positions", () -> {
            FamilyStore store = new FamilyStore();
            errorIn(store, "$" + "a".repeat(199), 0);
            errorIn(store, "a+".repeat(100), 200);
            errorIn(store, "a+".repeat(99) + "a$", 199);
        });
        Check.test("promise 5 errorPosition: other calls, refused ones too, leave it as it is", () -> {
            FamilyStore store = Scene.small().store;
            store.feed(0, 0, 0, 0, 0);
            store.trim(1);
            Check.refuses("trim", Check.ARGUMENT, () -> store.trim(2));
            store.write(0);
            store.single(1);
            store.release(0);
            Check.refuses("write", Check.MISSING, () -> store.write(0));
            Check.same("position", store.errorPosition(), Scene.ERROR_POSITION);
        });
    }

    private static void writes(String name, String text, String due) {
        Check.test("promise 6 write: " + name, () -> {
            FamilyStore store = new FamilyStore();
            Check.eval(store, text);
            Check.same("bytes", store.write(0), due.length());
            Check.same("output", Check.written(store, 0), due);
            Check.refuses("no byte behind", Check.INDEX, () -> store.outputByte(due.length()));
        });
    }

    private static void write() {
        writes("the empty family is 0", "0", "0");
        writes("the empty set is 1", "1", "1");
        writes("the empty set is 1 before other sets too", "a + 1", "1+a");
        writes("one set has no + behind it", "abc", "abc");
        writes("sets in ascending order of their masks", "l + ab + a + cd + b + kl", "a+b+ab+cd+l+kl");
        writes("letters in ascending order", "lkjihgfedcba", "abcdefghijkl");
        Check.test("promise 6 write: a shorter output replaces the former one", () -> {
            FamilyStore store = Check.with("ab + cd", "e");
            store.write(0);
            Check.same("bytes", store.write(1), 1);
            Check.same("byte 0", store.outputByte(0), (int) 'e');
            Check.refuses("byte 1", Check.INDEX, () -> store.outputByte(1));
        });
        Check.test("promise 6 write: a longer output replaces the former one", () -> {
            FamilyStore store = Check.with("e", "ab + cd");
            store.write(0);
            Check.same("output", Check.written(store, 1), "ab+cd");
        });
        Check.test("promise 6 write: the output stays when the family is released", () -> {
            FamilyStore store = Check.with("ab");
            store.write(0);
            store.release(0);
            Check.same("byte 1", store.outputByte(1), (int) 'b');
        });
    }

    /**
     * Families 1 to 3 of this store have outputs of 999, 1000 and 1001 bytes, 4 and 5 of 1000 and 1001 bytes with
     * the empty set and single letters: 210 sets of four letters and a + each, but for the last, are 1049 bytes.
     */
    private static FamilyStore longOutputs() {
        FamilyStore store = new FamilyStore();
        store.subsetsOf(1023, 4);
        String less = "#0 - abc*(d+e+f+g+h+i+j) - abd*";
        Check.eval(store, less + "(e+f+g)");
        Check.eval(store, less + "(e+f+g+h) + abcde");
        Check.eval(store, less + "(e+f+g+h+i) + abcde + abcdf");
        Check.eval(store, less + "(e+f+g+h) + 1 + a + b");
        Check.eval(store, less + "(e+f+g+h+i) + 1 + a + b + c + d + e");
        return store;
    }

    private static void writeLimit() {
        Check.test("promise 6 write: 999 bytes", () -> Check.same("bytes", longOutputs().write(1), 999));
        Check.test("promise 6 write: 1000 bytes", () -> {
            FamilyStore store = longOutputs();
            Check.same("bytes", store.write(2), 1000);
            Check.same("the last byte", store.outputByte(999), (int) 'j');
        });
        Check.test("promise 6 write: 1000 bytes, the empty set among them", () -> {
            FamilyStore store = longOutputs();
            Check.same("bytes", store.write(4), 1000);
            Check.same("the last byte", store.outputByte(999), (int) 'j');
        });
        tooLong("1001 bytes", 3);
        tooLong("1001 bytes, the empty set among them", 5);
        Check.test("promise 6 write: the output of all sets, far more than 1000 bytes", () -> {
            Scene scene = Scene.small();
            FamilyStore store = new FamilyStore();
            Check.same("all sets", store.subsetsOf(4095, -1), 0);
            Check.refuses("all sets", Check.ARITHMETIC, () -> store.write(0));
            scene.changedNothing("another store");
        });
        Check.test("promise 6 write: a released family is told before more than 1000 bytes", () -> {
            FamilyStore store = longOutputs();
            store.release(3);
            Check.refuses("released", Check.MISSING, () -> store.write(3));
        });
    }

    private static void tooLong(String name, int family) {
        Check.test("promise 6 write: " + name, () -> {
            FamilyStore store = longOutputs();
            Check.refuses(name, Check.ARITHMETIC, () -> store.write(family));
        });
        Check.test("promise 6 write: the former output stays when there would be " + name, () -> {
            FamilyStore store = longOutputs();
            Check.eval(store, "ab");
            store.write(6);
            Check.refuses(name, Check.ARITHMETIC, () -> store.write(family));
            Check.same("byte 0", store.outputByte(0), (int) 'a');
            Check.same("byte 1", store.outputByte(1), (int) 'b');
            Check.refuses("byte 2", Check.INDEX, () -> store.outputByte(2));
        });
    }

    private static void outputByte() {
        Check.test("promise 7 outputByte: the first and the last byte", () -> {
            FamilyStore store = Scene.small().store;
            Check.same("byte 0", store.outputByte(0), (int) '1');
            Check.same("byte 5", store.outputByte(5), (int) 'c');
        });
        for (int i : new int[] {-1, 6, 1000, Integer.MIN_VALUE, Integer.MAX_VALUE}) {
            Check.test("promise 7 outputByte: there is no byte " + i, () -> {
                Scene scene = Scene.small();
                scene.refuses("byte " + i, Check.INDEX, () -> scene.store.outputByte(i));
            });
        }
        Check.test("promise 7 outputByte: no byte 1000 behind 1000 bytes", () -> {
            FamilyStore store = longOutputs();
            store.write(2);
            Check.refuses("byte 1000", Check.INDEX, () -> store.outputByte(1000));
        });
        Check.test("promise 7 outputByte: no byte before the first write", () -> {
            FamilyStore store = Check.with("a");
            Check.refuses("byte 0", Check.INDEX, () -> store.outputByte(0));
        });
        Check.test("promise 7 outputByte: a byte that only the former output had", () -> {
            FamilyStore store = longOutputs();
            store.write(2);
            Check.eval(store, "0");
            Check.same("bytes", store.write(6), 1);
            Check.refuses("byte 1", Check.INDEX, () -> store.outputByte(1));
            Check.refuses("byte 999", Check.INDEX, () -> store.outputByte(999));
        });
    }
}
