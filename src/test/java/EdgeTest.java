import java.io.IOException;
import java.nio.file.Files;
import java.nio.file.Path;
import java.util.regex.Matcher;
import java.util.regex.Pattern;

/**
 * A test for each sentence of the document that names a boundary case. It is named after the promise (or the part
 * of the description) and the case; what is wrong is told with this name. With any argument all names are printed.
 */
final class EdgeTest {
    private static final Pattern PROMISE = Pattern.compile("## Promise (\\d+): (.*)");
    private static final Pattern THROWS = Pattern.compile("Throws `(?:java` \\.util\\.)?(\\w+).*");
    private static final int PROMISES = 42;

    public static void main(String[] args) throws IOException {
        DescriptionEdges.run();
        ExpressionEdges.run();
        TextEdges.run();
        FamilyEdges.run();
        OperationEdges.run();
        QuestionEdges.run();
        CostEdges.run();
        Refusals.run();
        allExceptions();
        if (args.length > 0) {
            Check.printNames();
        }
        Check.end("EdgeTest");
    }

    /** Each sentence of the document that begins with "Throws" is seen by a test of its promise. */
    private static void allExceptions() throws IOException {
        String subject = "";
        int promises = 0;
        for (String line : Files.readAllLines(Path.of("../shared/DOC.md"))) {
            Matcher promise = PROMISE.matcher(line);
            Matcher exception = THROWS.matcher(line);
            if (promise.matches()) {
                subject = "promise " + promise.group(1) + " " + promise.group(2).replace("A new object", "FamilyStore");
                promises++;
                Check.same("a test for " + subject, Check.hasTest(subject), true);
            } else if (exception.matches()) {
                Check.same("a test for " + subject + ": " + line, Check.hasRefused(subject, exception.group(1)), true);
            }
        }
        Check.same("promises", promises, PROMISES);
    }
}
