import java.io.IOException;
import java.io.UncheckedIOException;
import java.lang.reflect.Method;
import java.lang.reflect.Modifier;
import java.nio.file.Files;
import java.nio.file.Path;
import java.util.ArrayList;
import java.util.List;
import java.util.Set;
import java.util.TreeSet;
import java.util.regex.MatchResult;
import java.util.regex.Matcher;
import java.util.regex.Pattern;
import java.util.stream.Stream;

/** README.md: its examples hold, and it names all of the face, each exception, and each test. */
public final class ReadmeTest {
    private static final Path FILE = Path.of("README.md");
    private static final Pattern TABLE_ROW = Pattern.compile("(?m)^\\| `(\\w+) (\\w+)\\(([^`]*)\\)` \\|([^|]+)\\|([^|]+)\\|$");
    private static final String ROW = "TwistedRow row = new TwistedRow();\n";

    private static String read(Path file) {
        try {
            return Files.readString(file);
        } catch (IOException broken) {
            throw new UncheckedIOException(broken);
        }
    }

    private static Examples examples(String name, String text) {
        try {
            return new Examples(name, text);
        } catch (IOException broken) {
            throw new UncheckedIOException(broken);
        }
    }

    private static List<Method> methods() {
        List<Method> methods = new ArrayList<>();
        for (Method method : TwistedRow.class.getDeclaredMethods()) {
            if (Modifier.isPublic(method.getModifiers())) {
                methods.add(method);
            }
        }
        return methods;
    }

    private static void examplesHold(String text) {
        Examples examples = examples("README.md", text);
        Check.due("the examples of README.md: what does not hold", List.of(), examples::faults);
        Set<String> due = new TreeSet<>();
        for (Method method : methods()) {
            due.add(method.getName());
            for (Class<?> thrown : method.getExceptionTypes()) {
                due.add(method.getName() + " throws " + thrown.getSimpleName());
            }
        }
        Check.due("the methods and exceptions with an example", due, () -> new TreeSet<>(examples.calls()));
        Check.due("calls outside of the examples", 0L,
            () -> Pattern.compile("row\\.\\w+\\(").matcher(text.replaceAll("(?ms)^```java$.*?^```$", "")).results().count());
    }

    private static void tablesNameTheFace(String text) {
        Set<String> told = new TreeSet<>();
        Matcher row = TABLE_ROW.matcher(text);
        while (row.find()) {
            told.add(row.group(1) + " " + row.group(2) + "(" + row.group(3).replaceAll(" \\w+(?=,|$)", "") + ")"
                + exceptions(row.group(5)));
        }
        Set<String> due = new TreeSet<>();
        for (Method method : methods()) {
            List<String> parameters = Stream.of(method.getParameterTypes()).map(Class::getSimpleName).toList();
            List<String> thrown = Stream.of(method.getExceptionTypes()).map(Class::getSimpleName).toList();
            due.add(method.getReturnType() + " " + method.getName() + "(" + String.join(", ", parameters) + ")" + thrown);
        }
        Check.due("the methods in the tables, with what they throw", due, () -> told);
        Check.due("the constructor is told of", true, () -> text.contains("`new TwistedRow()`"));
        Check.due("the constant is told of", true, () -> text.contains("`TwistedRow.NONE` is " + TwistedRow.NONE + " "));
    }

    private static List<String> exceptions(String cell) {
        return Pattern.compile("`(\\w+Exception)`: ").matcher(cell).results().map((MatchResult found) -> found.group(1)).toList();
    }

    /** The names of the parameters are the document's, too. */
    private static void signaturesAreTheDocuments(String text) {
        String document = read(Path.of("../shared/DOC.md"));
        Matcher row = TABLE_ROW.matcher(text);
        while (row.find()) {
            String signature = row.group(1) + " " + row.group(2) + "(" + row.group(3) + ")";
            Check.due(signature + " stands in the document", true, () -> document.contains("public " + signature));
        }
    }

    private static void testsAreTold(String text) throws IOException {
        Check.due(".ci/run is told of", true, () -> text.contains("\n    .ci/run\n") && Files.isExecutable(Path.of(".ci/run")));
        try (Stream<Path> files = Files.list(Path.of("src/test/java"))) {
            for (String name : files.map(file -> file.getFileName().toString()).filter(file -> file.endsWith("Test.java")).toList()) {
                Check.due(name + " is told of", true, () -> text.contains("`" + name.replace(".java", "") + "`"));
            }
        }
    }

    private static void wrong(String what, String lines) {
        Check.due(what + " is found", 1, () -> examples("a text", "```java\n" + lines + "\n```\n").faults().size());
    }

    /** The examples of a text that is wrong are found to be wrong. */
    private static void wrongExamplesAreFound() {
        Check.due("a right text", List.of(), () -> examples("a text", "```java\n" + ROW + "row.begin(4); // 5: so\n```\n").faults());
        wrong("another answer", ROW + "row.begin(4); // 4");
        wrong("another answer behind others", ROW + "row.begin(4); // 5\n\nrow.count(0); // 5: no");
        wrong("another number of the same kind", ROW + "row.meanLength(); // 1.0");
        wrong("an answer in place of an exception", ROW + "row.count(0); // throws IllegalArgumentException");
        wrong("an exception in place of an answer", ROW + "row.begin(2); // 5: no");
        wrong("another exception", ROW + "row.begin(2); // throws IllegalStateException: no");
        wrong("an exception above it", ROW + "row.begin(2); // throws RuntimeException");
        wrong("a call that tells nothing", ROW + "row.begin(4);");
        wrong("a line that is not understood", ROW + "int four = row.begin(4);");
        wrong("a method that does not exist", ROW + "row.end(4); // 5");
        wrong("a row that was not made", "row.begin(4); // 5");
        wrong("typing that is not compiled", ROW + "for (char code : \"a\".toCharArray()) { other.append(code); }");
    }

    public static void main(String[] args) throws IOException {
        String text = read(FILE);
        examplesHold(text);
        tablesNameTheFace(text);
        signaturesAreTheDocuments(text);
        testsAreTold(text);
        wrongExamplesAreFound();
        Check.finish();
    }
}
