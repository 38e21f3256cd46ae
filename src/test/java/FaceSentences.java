import java.io.IOException;
import java.io.UncheckedIOException;
import java.nio.file.Files;
import java.nio.file.Path;
import java.util.ArrayList;
import java.util.List;
import java.util.regex.MatchResult;
import java.util.regex.Matcher;
import java.util.regex.Pattern;

/** What the document says before its promises and behind them: the title, the face and its parts, what is free. */
final class FaceSentences extends Sentences {
    private static final Pattern PART = Pattern.compile("(?m)^Ahead of the calls ([^\n]*) the interface says: (---- [^\n]*)\\.$");
    private static final Pattern SIGNATURE = Pattern.compile("(?m)^`([^`]*\\([^`]*\\)[^`]*)`: ");

    /** The source with one blank for each gap, as its signatures are broken into lines. */
    private static final String SOURCE = source().replaceAll("\\s+", " ");

    static void all() {
        title();
        whatItIs();
        face();
        signatures();
        parts();
        notPromised();
    }

    private static String source() {
        try {
            return Files.readString(Path.of("src/main/java/TwistedRow.java"));
        } catch (IOException broken) {
            throw new UncheckedIOException(broken);
        }
    }

    private static void title() {
        sentence("# TwistedRow", "# TwistedRow", () -> due("the class", "TwistedRow", TwistedRow.class::getName));
    }

    private static void whatItIs() {
        sentence("What it is", "Row puzzles that are twisted: turns that permute the tiles of a row, the groups that they generate "
            + "with their orders and orbits, shortest words that solve an arrangement, solving by a subgroup, and what changes "
            + "if moves are forbidden.", () -> {
                TwistedRow row = Rows.loaded(3, "201;102");
                Rows.type(row, "ab");
                due("the turns permute the tiles", 2, row::run);
                due("the tiles", "021", () -> Rows.tiles(row));
                due("the order", 6, () -> row.group(0));
                due("the orbits", 1, () -> row.group(1));
                due("a shortest word", "0 2", () -> Rows.word(row));
                due("by a subgroup", 1, () -> row.phase(0b0011, 0));
                due("and then", 1, () -> row.phase(0b0011, 1));
                due("if a move is forbidden", 6, () -> row.ifForbidden(0, 0));
                due("and if it is", 0b1111, () -> row.allow(0b1110));
                due("another word", "2 1", () -> Rows.word(row));
            });
    }

    /** Each line of the face stands in the class, word by word and in this order. */
    private static void face() {
        int behind = 0;
        for (String line : DOCUMENT.text("The public face").split("\n")) {
            String words = line.trim();
            if (words.startsWith("public ")) {
                int from = behind;
                int at = SOURCE.indexOf(inSource(words), behind);
                behind = Math.max(behind, at);
                sentence("The public face", words, () -> due("it stands in the class, behind the one before", true, () -> at >= from));
            }
        }
    }

    /** A method's or constructor's line ends with its body in the class, and with a semicolon in the document. */
    private static String inSource(String words) {
        return words.contains("(") ? words.replace(";", " {") : words;
    }

    private static void signatures() {
        for (int number = 1; number <= 28; number++) {
            Matcher signature = SIGNATURE.matcher(DOCUMENT.text("Promise " + number));
            String words = signature.find() ? signature.group(1) : "none";
            promise(number, "`" + words + "`: ", () -> {
                due("it is public", true, () -> SOURCE.contains(" public " + words + " {"));
                due("it is the face's", true, () -> DOCUMENT.text("The public face").contains("    public " + words + ";\n"));
            });
        }
    }

    private static void parts() {
        Matcher part = PART.matcher(DOCUMENT.text("Terms"));
        while (part.find()) {
            List<String> calls = names(Pattern.compile("`(\\w+)`"), part.group(1));
            String heading = " // " + part.group(2) + " ";
            term(part.group(), () -> due("the calls behind it in the class", calls, () -> callsBehind(heading)));
        }
    }

    /** The public methods between a heading and the next one. */
    private static List<String> callsBehind(String heading) {
        int at = SOURCE.indexOf(heading);
        int next = at < 0 ? -1 : SOURCE.indexOf(" // ---- ", at + heading.length());
        String behind = at < 0 ? "" : SOURCE.substring(at, next < 0 ? SOURCE.indexOf(" private ", at) : next);
        return names(Pattern.compile(" public [a-z]+ (\\w+)\\("), behind);
    }

    private static List<String> names(Pattern pattern, String text) {
        return new ArrayList<>(pattern.matcher(text).results().map((MatchResult found) -> found.group(1)).toList());
    }

    private static void notPromised() {
        sentence("Not promised", "How the state is held inside the object is free, as are the speed of each call, the text of toString "
            + "and the behaviour of equals and hashCode.", () -> {
                due("toString is not the class's own", Object.class, () -> declaring("toString"));
                due("hashCode is not the class's own", Object.class, () -> declaring("hashCode"));
                due("equals is not the class's own", Object.class, () -> declaring("equals", Object.class));
            });
        sentence("Not promised", "Use of one object from several threads at once is not promised to be safe.", () -> {
            TwistedRow row = Rows.busy();
            due("but one after the other it is", Rows.everything(Rows.busy()), () -> inAnotherThread(row));
            due("and the first one again", Rows.everything(Rows.busy()), () -> Rows.everything(row));
        });
        sentence("Not promised", "Nothing is promised beyond the answers and state changes described above, and nothing about an object "
            + "after its 512th call.", () -> {
                TwistedRow row = Rows.busy();
                for (Maker maker : List.<Maker>of(Rows::full, () -> Rows.crowded(8), () -> Rows.crowded(3), TwistedRow::new)) {
                    due("another object", Rows.everything(maker.make()), () -> Rows.everything(maker.make()));
                }
                due("and this one is as it was", Rows.everything(Rows.busy()), () -> Rows.everything(row));
            });
    }

    private static Class<?> declaring(String name, Class<?>... parameters) {
        try {
            return TwistedRow.class.getMethod(name, parameters).getDeclaringClass();
        } catch (NoSuchMethodException never) {
            throw new IllegalStateException(never);
        }
    }

    private static String inAnotherThread(TwistedRow row) {
        StringBuilder told = new StringBuilder();
        Thread other = new Thread(() -> told.append(Rows.everything(row)));
        other.start();
        try {
            other.join();
        } catch (InterruptedException broken) {
            throw new IllegalStateException(broken);
        }
        return told.toString();
    }
}
