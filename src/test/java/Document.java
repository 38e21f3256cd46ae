import java.io.IOException;
import java.io.UncheckedIOException;
import java.nio.file.Files;
import java.nio.file.Path;
import java.util.ArrayList;
import java.util.LinkedHashMap;
import java.util.List;
import java.util.Map;
import java.util.regex.Matcher;
import java.util.regex.Pattern;

/** The sentences of ../shared/DOC.md, and which of their words the tests have quoted. */
final class Document {
    private static final Path FILE = Path.of("../shared/DOC.md");

    /** What says nothing that a test could look at: headings, and the marks round the face. */
    private static final Pattern NO_SENTENCE = Pattern.compile("Rows and moves\\.\n|Solving\\.\n|Input text\\.\n"
        + "|Solving by a subgroup\\.\n|Exceptions\\. |The constants: |```java\n");

    private final Map<String, String> texts = new LinkedHashMap<>();
    private final Map<String, boolean[]> quoted = new LinkedHashMap<>();

    Document() {
        try {
            for (String section : Files.readString(FILE).split("(?m)^## ")) {
                int heading = section.indexOf('\n');
                String name = section.substring(0, Math.max(0, heading)).split(":")[0];
                addSection(name, name.startsWith("# ") ? section : section.substring(heading).trim() + "\n");
            }
        } catch (IOException broken) {
            throw new UncheckedIOException(broken);
        }
    }

    private void addSection(String name, String text) {
        texts.put(name, text);
        quoted.put(name, new boolean[text.length()]);
        Matcher left = NO_SENTENCE.matcher(text);
        while (left.find()) {
            mark(name, left.start(), left.end());
        }
    }

    private void mark(String section, int from, int behind) {
        for (int i = from; i < behind; i++) {
            quoted.get(section)[i] = true;
        }
    }

    /** Tells whether the words stand in the section just so; they are quoted from then on. */
    boolean quote(String section, String words) {
        String text = texts.getOrDefault(section, "");
        int at = text.indexOf(words);
        if (at < 0 || words.isEmpty()) {
            return false;
        }
        mark(section, at, at + words.length());
        return true;
    }

    String text(String section) {
        return texts.getOrDefault(section, "");
    }

    int sections() {
        return texts.size();
    }

    /** The words that no test has quoted. */
    List<String> unquoted() {
        List<String> left = new ArrayList<>();
        for (Map.Entry<String, String> section : texts.entrySet()) {
            StringBuilder rest = new StringBuilder();
            for (int i = 0; i < section.getValue().length(); i++) {
                rest.append(quoted.get(section.getKey())[i] ? '|' : section.getValue().charAt(i));
            }
            for (String words : rest.toString().split("[|\n]+")) {
                if (words.chars().anyMatch(Character::isLetterOrDigit)) {
                    left.add(section.getKey() + ": " + words);
                }
            }
        }
        return left;
    }
}
