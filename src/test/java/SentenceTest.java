/** All sentences of the document, promise by promise, and that none of them is left out. */
public final class SentenceTest extends Sentences {
    private static void everySentenceIsQuoted() {
        Check.due("the sections of the document", 30, DOCUMENT::sections);
        for (String words : DOCUMENT.unquoted()) {
            Check.due("a sentence without a test: " + words, "one with a test", () -> "none");
        }
    }

    public static void main(String[] args) {
        TermSentences.all();
        ExceptionSentences.all();
        RowSentences.all();
        InputSentences.all();
        GroupSentences.all();
        WordSentences.all();
        StateSentences.all();
        everySentenceIsQuoted();
        Check.finish();
    }
}
