import java.io.IOException;
import java.lang.reflect.Member;
import java.lang.reflect.Method;
import java.lang.reflect.Modifier;
import java.nio.file.Files;
import java.nio.file.Path;
import java.util.ArrayList;
import java.util.Arrays;
import java.util.HashSet;
import java.util.List;
import java.util.Set;

/** The face of the class, and those rules of LANGUAGE.md that can be seen without understanding the code. */
final class LanguageTest {
    private static final String[] FACE = {
        "feed(int,int,int,int,int)int IllegalStateException",
        "trim(int)int IllegalArgumentException",
        "evaluate()int ArithmeticException IllegalArgumentException IllegalStateException",
        "errorPosition()int", "write(int)int ArithmeticException IndexOutOfBoundsException NoSuchElementException",
        "outputByte(int)int IndexOutOfBoundsException",
        "single(int)int IllegalArgumentException IllegalStateException",
        "subsetsOf(int,int)int IllegalArgumentException IllegalStateException",
        "release(int)int ^", "createdCount()int", "nodeCount()int", "nodesOf(int)int ^",
        "union(int,int)int ^!", "intersection(int,int)int ^!", "difference(int,int)int ^!", "join(int,int)int ^!",
        "meet(int,int)int ^!", "quotient(int,int)int ArithmeticException ^!",
        "remainder(int,int)int ArithmeticException ^!", "supersets(int,int)int ^!", "subsets(int,int)int ^!",
        "maximal(int)int ^!", "minimal(int)int ^!", "hitting(int)int ^!", "closure(int)int ^!",
        "change(int,int)int ^!", "withCost(int,int,int)int ^!", "count(int)int ^", "countOfSize(int,int)int ^",
        "countWith(int,int)int ^", "contains(int,int)boolean ^", "areEqual(int,int)boolean ^",
        "isPartOf(int,int)boolean ^", "setAt(int,int)int ^", "indexOf(int,int)int ^",
        "setCost(int,int)int IllegalArgumentException IndexOutOfBoundsException", "leastCost(int)int ^",
        "meanCost(int)double ^", "enumerate(int,int,int)int IllegalArgumentException ^",
        "enumerated(int)int IndexOutOfBoundsException", "digest()long"
    };

    public static void main(String[] args) throws IOException {
        face();
        names();
        source();
        Check.end("LanguageTest");
    }

    private static void face() {
        Set<String> due = new HashSet<>();
        for (String method : FACE) {
            due.add(method.replace("^!", "IllegalStateException ^")
                    .replace("^", "IndexOutOfBoundsException NoSuchElementException"));
        }
        Set<String> got = new HashSet<>();
        for (Method method : FamilyStore.class.getDeclaredMethods()) {
            if (!Modifier.isPrivate(method.getModifiers())) {
                got.add(described(method));
            }
        }
        Check.same("methods of the face", sorted(got), sorted(due));
        Check.same("public final", FamilyStore.class.getModifiers(), Modifier.PUBLIC | Modifier.FINAL);
        Check.same("constructors", FamilyStore.class.getDeclaredConstructors().length, 1);
        List<Member> fields = new ArrayList<>(Arrays.asList(FamilyStore.class.getDeclaredFields()));
        fields.removeIf(field -> Modifier.isPrivate(field.getModifiers()));
        Check.same("fields that can be seen", fields.size(), 0);
    }

    private static List<String> sorted(Set<String> all) {
        return all.stream().sorted().toList();
    }

    private static String described(Method method) {
        StringBuilder out = new StringBuilder(method.getName()).append('(');
        for (Class<?> type : method.getParameterTypes()) {
            out.append(out.charAt(out.length() - 1) == '(' ? "" : ",").append(type.getSimpleName());
        }
        out.append(')').append(method.getReturnType().getSimpleName());
        Arrays.stream(method.getExceptionTypes()).map(Class::getSimpleName).sorted()
                .forEach(name -> out.append(' ').append(name));
        return out.toString();
    }

    private static void names() {
        Set<String> open = new HashSet<>();
        for (Method method : FamilyStore.class.getDeclaredMethods()) {
            if (Modifier.isPublic(method.getModifiers())) {
                open.add(method.getName());
            }
        }
        List<Class<?>> all = new ArrayList<>(List.of(FamilyStore.class.getDeclaredClasses()));
        Check.same("classes", all.size() + 1 <= 12, true);
        all.add(FamilyStore.class);
        for (Class<?> each : all) {
            for (Method method : each.getDeclaredMethods()) {
                boolean own = each == FamilyStore.class && Modifier.isPublic(method.getModifiers());
                Check.same("own name of " + method, own || !open.contains(method.getName()), true);
                Check.same("parameters of " + method, method.getParameterCount() <= 7, true);
            }
            long fields = Arrays.stream(each.getDeclaredFields())
                    .filter(field -> !Modifier.isStatic(field.getModifiers())).count();
            Check.same("fields of " + each, fields <= 20, true);
            for (java.lang.reflect.Field field : each.getDeclaredFields()) {
                Check.same("final if static: " + field,
                        !Modifier.isStatic(field.getModifiers()) || Modifier.isFinal(field.getModifiers()), true);
            }
        }
    }

    private static void source() throws IOException {
        List<String> lines = Files.readAllLines(Path.of("src/main/java/FamilyStore.java"));
        int methodStart = -1;
        String indent = "";
        for (int i = 0; i < lines.size(); i++) {
            String line = lines.get(i);
            String code = line.replaceAll("^\\s*(/?\\*|//).*", "").replaceAll("'.'", "' '");
            for (String banned : new String[] {"->", "::", "synchronized", "assert ", "finally", "Exact", "catch",
                "instanceof", "System.current", "System.nano", "Random", "getClass", "hashCode", "package ",
                "static {", "float", "\""}) {
                Check.same("line " + (i + 1) + " has no " + banned, code.contains(banned), false);
            }
            Check.same("line " + (i + 1) + " is ASCII", line.chars().allMatch(sign -> sign < 127), true);
            if (methodStart < 0 && line.matches("( {4}| {8})[a-z].*\\(.*\\{")
                    || line.matches("( {4}| {8})(public|private|static) .*\\)$")) {
                methodStart = i;
                indent = line.replaceAll("\\S.*", "");
            } else if (methodStart >= 0 && line.equals(indent + "}")) {
                Check.same("line " + (methodStart + 1) + ": a short method", i - methodStart <= 60, true);
                methodStart = -1;
            }
        }
    }
}
