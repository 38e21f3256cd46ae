import java.io.IOException;
import java.lang.reflect.Field;
import java.lang.reflect.Modifier;
import java.nio.file.Files;
import java.nio.file.Path;
import java.util.ArrayList;
import java.util.List;
import java.util.Set;
import java.util.TreeSet;
import java.util.regex.MatchResult;
import java.util.regex.Matcher;
import java.util.regex.Pattern;
import java.util.stream.Stream;

/** The rules of LANGUAGE.md that can be read off the source, word by word. */
public final class LanguageTest {
    private static final String[] NEVER = {"\\bimport\\b", "\\bpackage\\b", "\\bcatch\\b", "\\btry\\b", "\\bfinally\\b",
        "->", "::", "\\bsynchronized\\b", "\\bassert\\b", "\\bvar\\b", "\\bjava\\.", "\\bDouble\\b", "\\bObject\\b",
        "\\bRandom\\b", "\\bSystem\\.(?!arraycopy)", "\\bThread\\b", "Exact\\b", "\\bMath\\b", "[^\\x00-\\x7f]"};
    private static final Pattern METHOD = Pattern.compile(
        "(?ms)^( {4}| {8})((?:public |private |static )*[\\w\\[\\]]+ (?!class)\\w+\\(|(?:public )?[A-Z]\\w+\\()([^)]*)\\)[^{;]*\\{\n(.*?)^\\1\\}$");

    private static String withoutComments(String text) {
        return text.replaceAll("(?s)/\\*.*?\\*/", "").replaceAll("//[^\n]*", "");
    }

    private static Set<String> found(String pattern, String code) {
        return new TreeSet<>(Pattern.compile(pattern).matcher(code).results().map((MatchResult match) -> match.group(1)).toList());
    }

    /** Rules 4 and 6: what is made and called beside the program's own. */
    private static void library(String code) {
        Check.due("what is made", Set.of("Graph(", "Search(", "char[", "int[", "long[", "IllegalArgumentException(",
            "IllegalStateException(", "IndexOutOfBoundsException("), () -> found("\\bnew (\\w+[(\\[])", code));
        Check.due("what is thrown", 0L, () -> Pattern.compile("\\bthrow (?!new \\w+\\(\"[ -~]+\"\\);)").matcher(code).results().count());
        Check.due("the library's functions", Set.of("Integer.bitCount"), () -> found("\\b([A-Z]\\w*\\.\\w+)\\(", code));
    }

    /** Rule 11: short methods, few parameters, classes and fields. Rule 5: what is static never changes. */
    private static void sizes(String code) {
        int methods = 0;
        Matcher method = METHOD.matcher(code);
        while (method.find()) {
            methods++;
            String name = method.group(2);
            long lines = method.group(4).lines().count();
            long parameters = method.group(3).isEmpty() ? 0 : method.group(3).split(",").length;
            Check.due(name + " is at most sixty lines long", true, () -> lines <= 60);
            Check.due(name + " has at most seven parameters", true, () -> parameters <= 7);
        }
        int seen = methods;
        List<Class<?>> classes = new ArrayList<>(List.of(TwistedRow.class));
        classes.addAll(List.of(TwistedRow.class.getDeclaredClasses()));
        Check.due("the methods and constructors that were looked at", declared(classes), () -> seen);
        Check.due("at most twelve classes", true, () -> classes.size() <= 12);
        for (Class<?> each : classes) {
            List<Field> fields = Stream.of(each.getDeclaredFields()).filter(field -> !field.isSynthetic()).toList();
            Check.due("the static fields of " + each + " that are not final", List.of(),
                () -> fields.stream().filter(field -> Modifier.isStatic(field.getModifiers()) && !Modifier.isFinal(field.getModifiers())).toList());
            Check.due("at most twenty fields of " + each, true,
                () -> fields.stream().filter(field -> !Modifier.isStatic(field.getModifiers())).count() <= 20);
        }
    }

    private static int declared(List<Class<?>> classes) {
        int count = 0;
        for (Class<?> each : classes) {
            count += each.getDeclaredConstructors().length;
            count += (int) Stream.of(each.getDeclaredMethods()).filter(method -> !method.isSynthetic()).count();
        }
        return count;
    }

    public static void main(String[] args) throws IOException {
        Path source = Path.of("src/main/java/TwistedRow.java");
        String code = withoutComments(Files.readString(source));
        for (String never : NEVER) {
            Check.due("how often " + never, 0L, () -> Pattern.compile(never).matcher(code).results().count());
        }
        library(code);
        sizes(code);
        Check.finish();
    }
}
