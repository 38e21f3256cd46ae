import java.io.ByteArrayOutputStream;
import java.io.IOException;
import java.net.URL;
import java.net.URLClassLoader;
import java.nio.file.Files;
import java.nio.file.Path;
import java.util.ArrayList;
import java.util.List;
import java.util.function.Consumer;
import java.util.regex.Matcher;
import java.util.regex.Pattern;
import java.util.stream.Stream;
import javax.tools.ToolProvider;

/**
 * The examples of a text in Markdown: its blocks of Java, each of them for itself. A line makes a row, or types a
 * text into it, or is a call with what it answers ("// 24: the order") or throws ("// throws IllegalStateException").
 */
final class Examples {
    private static final Pattern BLOCK = Pattern.compile("(?ms)^```java\n(.*?)^```$");
    private static final Pattern MAKES = Pattern.compile("TwistedRow \\w+ = new TwistedRow\\(\\);(\\s*//.*)?");
    private static final Pattern TYPES = Pattern.compile(
        "for \\(char (\\w+) : \"[^\"\\\\]*\"\\.toCharArray\\(\\)\\) \\{ \\w+\\.append\\(\\1\\); }(\\s*//.*)?");
    private static final Pattern CALL = Pattern.compile("(\\w+)\\.(\\w+)\\(([^;\"]*)\\);\\s*// (throws )?([^:]+?)(: .*)?");

    private final List<String> calls = new ArrayList<>();
    private final List<String> faults = new ArrayList<>();
    private final String name;

    Examples(String name, String text) throws IOException {
        this.name = name;
        StringBuilder blocks = new StringBuilder();
        Matcher block = BLOCK.matcher(text);
        while (block.find()) {
            addBlock(block.group(1), (int) text.substring(0, block.start(1)).lines().count(), blocks);
        }
        if (faults.isEmpty()) {
            run("public final class ExampleRun implements java.util.function.Consumer<Told> {\n"
                + "static final int NONE = TwistedRow.NONE;\npublic void accept(Told told) {\n" + blocks + "}\n}\n");
        }
    }

    private void addBlock(String block, int linesBefore, StringBuilder to) {
        int number = linesBefore;
        to.append("{\n");
        for (String line : block.split("\n")) {
            number++;
            addLine(line.trim(), name + ":" + number + ": ", to);
        }
        to.append("}\n");
    }

    private void addLine(String line, String where, StringBuilder to) {
        Matcher call = CALL.matcher(line);
        if (call.matches()) {
            String plain = call.group(1) + "." + call.group(2) + "(" + call.group(3) + ")";
            String example = "\"" + where + plain.replace("\\", "\\\\") + "\", ";
            boolean isThrown = call.group(4) != null;
            calls.add(call.group(2) + (isThrown ? " throws " + call.group(5) : ""));
            to.append(isThrown
                ? "told.refuses(" + example + call.group(5) + ".class, " + call.group(1) + ", () -> " + plain + ");\n"
                : "told.answers(" + example + call.group(5) + ", () -> " + plain + ");\n");
        } else if (line.isEmpty() || MAKES.matcher(line).matches() || TYPES.matcher(line).matches()) {
            to.append(line).append('\n');
        } else {
            faults.add(where + "no example that can be run: " + line);
        }
    }

    private void run(String source) throws IOException {
        Path place = Files.createTempDirectory("examples");
        Path file = place.resolve("ExampleRun.java");
        try {
            Files.writeString(file, source);
            String classes = System.getProperty("java.class.path");
            ByteArrayOutputStream complaints = new ByteArrayOutputStream();
            int compiled = ToolProvider.getSystemJavaCompiler().run(null, complaints, complaints,
                "-encoding", "UTF-8", "-proc:none", "-cp", classes, "-d", place.toString(), file.toString());
            if (compiled != 0) {
                faults.add(name + ": the examples are not compiled: " + complaints);
                return;
            }
            faults.addAll(told(place));
        } finally {
            remove(place);
        }
    }

    @SuppressWarnings("unchecked")
    private static List<String> told(Path place) throws IOException {
        Told told = new Told();
        try (URLClassLoader loader = new URLClassLoader(new URL[] {place.toUri().toURL()})) {
            ((Consumer<Told>) loader.loadClass("ExampleRun").getConstructor().newInstance()).accept(told);
        } catch (ReflectiveOperationException broken) {
            throw new IllegalStateException(broken);
        }
        return told.faults();
    }

    private static void remove(Path place) throws IOException {
        try (Stream<Path> files = Files.list(place)) {
            for (Path file : (Iterable<Path>) files::iterator) {
                Files.delete(file);
            }
        }
        Files.delete(place);
    }

    /** The names of the methods that the examples call, with " throws " and an exception behind those that throw. */
    List<String> calls() {
        return calls;
    }

    /** What does not hold. */
    List<String> faults() {
        return faults;
    }
}
