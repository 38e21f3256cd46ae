/** All sentences of the document, from its first line to its last, and that none of them is left out. */
public final class SentenceTest extends Sentences {
    private static void everySentenceIsQuoted() {
        Check.due("the sections of the document", 33, DOCUMENT::sections);
        for (String words : DOCUMENT.unquoted()) {
            Check.due("a sentence without a test: " + words, "one with a test", () -> "none");
        }
    }

    public static void main(String[] args) {
        FaceSentences.all();
        TermSentences.all();
        ExceptionSentences.all();
        RowSentences.all();
        InputSentences.all();
        GroupSentences.all();
        WordSentences.all();
        StateSentences.all();
        everySentenceIsQuoted();
        Check.finish();
    }
}
