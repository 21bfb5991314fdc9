import java.io.File;
import java.io.IOException;
import java.lang.reflect.Method;
import java.lang.reflect.Modifier;
import java.nio.charset.StandardCharsets;
import java.nio.file.Files;
import java.nio.file.Path;
import java.util.regex.Matcher;
import java.util.regex.Pattern;

/** README.md: its example runs as it stands, what it says of expressions holds, and it names all calls and tests. */
final class ReadmeTest {
    private static final Pattern CALL = Pattern.compile("`(\\w+)\\(([^()]*)\\)`");
    private static final Pattern EXPRESSION = Pattern.compile("\\| `([^`]+)` \\| `([^`]+)` \\|");
    private static final int EXPRESSIONS = 12;

    private static String page = "";

    public static void main(String[] args) throws IOException, InterruptedException {
        page = Files.readString(Path.of("README.md"));
        Check.test("README: the example is the one that is tested", ReadmeTest::exampleIsTheFile);
        Check.test("README: the table of expressions", ReadmeTest::expressions);
        Check.test("README: the table of calls", ReadmeTest::calls);
        Check.test("README: the tests and their files", ReadmeTest::files);
        Check.test("README: the parts of the program", ReadmeTest::program);
        exampleRuns();
        Check.end("ReadmeTest");
    }

    private static void exampleIsTheFile() {
        Check.same("the example", block("java"), read("src/test/java/Example.java"));
    }

    /** Does what the page says before the example's answers, word by word. */
    private static void exampleRuns() throws IOException, InterruptedException {
        ProcessBuilder commands = new ProcessBuilder("sh", "-e", "-c", block("sh"));
        // What the compiler may say there of its settings is not the example's answer.
        Process shell = commands.redirectError(ProcessBuilder.Redirect.INHERIT).start();
        String printed = new String(shell.getInputStream().readAllBytes(), StandardCharsets.ISO_8859_1);
        Check.same("README: the example ends with", shell.waitFor(), 0);
        Check.same("README: the example prints", printed.replace("\r", ""), block("text"));
    }

    private static void expressions() {
        Matcher row = EXPRESSION.matcher(section("### Expressions"));
        int rows = 0;
        while (row.find()) {
            rows++;
            Check.same(row.group(1), Check.result(row.group(1)), row.group(2));
        }
        Check.same("rows", rows, EXPRESSIONS);
    }

    /** Each call of the face is in the table, and each call in the table is one of the face. */
    private static void calls() {
        for (Method method : FamilyStore.class.getDeclaredMethods()) {
            if (Modifier.isPublic(method.getModifiers())) {
                Check.same(method.toString(), names(method), true);
            }
        }
        Matcher call = CALL.matcher(section("### The calls"));
        while (call.find()) {
            String name = call.group(1);
            Check.same(call.group(), isOfFace(name), true);
        }
    }

    private static boolean names(Method method) {
        Matcher call = CALL.matcher(section("### The calls"));
        while (call.find()) {
            int parameters = call.group(2).isEmpty() ? 0 : call.group(2).split(",").length;
            if (call.group(1).equals(method.getName()) && parameters == method.getParameterCount()) {
                return true;
            }
        }
        return false;
    }

    private static boolean isOfFace(String name) {
        for (Method method : FamilyStore.class.getDeclaredMethods()) {
            if (Modifier.isPublic(method.getModifiers()) && method.getName().equals(name)) {
                return true;
            }
        }
        return false;
    }

    /** Each file of the tests is named on the page. */
    private static void files() {
        File[] files = new File("src/test/java").listFiles();
        Check.same("there are files", files != null && files.length > 0, true);
        for (File file : files) {
            String name = file.getName().replace(".java", "");
            Check.same(file.getName(), page.contains("`" + name + "`") || page.contains("/" + name + ".java"), true);
        }
        Check.same(".ci/run", new File(".ci/run").canExecute(), true);
    }

    /** The parts of the program that the page describes are there. */
    private static void program() {
        for (Class<?> part : FamilyStore.class.getDeclaredClasses()) {
            String name = part.getSimpleName();
            Check.same(name, page.contains("`" + name + "`"), true);
        }
    }

    /** The first block of this kind. */
    private static String block(String kind) {
        String start = "```" + kind + "\n";
        int from = page.indexOf(start);
        int to = from < 0 ? -1 : page.indexOf("```\n", from + start.length());
        return to < 0 ? "no such block" : page.substring(from + start.length(), to);
    }

    /** What stands between this heading and the next one. */
    private static String section(String heading) {
        int from = page.indexOf(heading + "\n");
        int to = from < 0 ? -1 : page.indexOf("\n#", from + heading.length());
        return to < 0 ? "" : page.substring(from, to);
    }

    private static String read(String file) {
        try {
            return Files.readString(Path.of(file));
        } catch (IOException e) {
            return "not read: " + e;
        }
    }
}
