import java.io.IOException;
import java.nio.file.Files;
import java.nio.file.Path;
import java.util.regex.Pattern;

/** The rules of LANGUAGE.md that can be read off the source, word by word. */
public final class LanguageTest {
    private static final String[] NEVER = {"\\bimport\\b", "\\bpackage\\b", "\\bcatch\\b", "\\btry\\b", "\\bfinally\\b",
        "->", "::", "\\bsynchronized\\b", "\\bassert\\b", "\\bvar\\b", "\\bjava\\.", "\\bDouble\\b", "\\bObject\\b",
        "\\bRandom\\b", "\\bSystem\\.(?!arraycopy)", "\\bThread\\b", "Exact\\b", "\\bMath\\b", "[^\\x00-\\x7f]"};

    private static String withoutComments(String text) {
        return text.replaceAll("(?s)/\\*.*?\\*/", "").replaceAll("//[^\n]*", "");
    }

    public static void main(String[] args) throws IOException {
        Path source = Path.of("src/main/java/TwistedRow.java");
        String code = withoutComments(Files.readString(source));
        for (String never : NEVER) {
            Check.due("how often " + never, 0L, () -> Pattern.compile(never).matcher(code).results().count());
        }
        Check.finish();
    }
}
