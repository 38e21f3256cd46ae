/** Tests of single sentences of ../shared/DOC.md: each one names the promise and quotes the sentence that it is of. */
abstract class Sentences {
    static final Class<? extends RuntimeException> INDEX = IndexOutOfBoundsException.class;
    static final Class<? extends RuntimeException> ARGUMENT = IllegalArgumentException.class;
    static final Class<? extends RuntimeException> STATE = IllegalStateException.class;
    static final int LEAST = Integer.MIN_VALUE;
    static final int GREATEST = Integer.MAX_VALUE;
    static final Document DOCUMENT = new Document();

    private static String name = "";

    interface Test {
        void run();
    }

    interface Maker {
        TwistedRow make();
    }

    interface Call {
        Object on(TwistedRow row);
    }

    static void promise(int number, String words, Test test) {
        sentence("Promise " + number, words, test);
    }

    static void term(String words, Test test) {
        sentence("Terms", words, test);
    }

    static void sentence(String section, String words, Test test) {
        name = section + " \"" + words + "\"";
        Check.due(name + " stands in the document", true, () -> DOCUMENT.quote(section, words));
        int before = Check.soFar();
        Check.due(name + " is tested to its end", "yes", () -> {
            test.run();
            return Check.soFar() > before + 1 ? "yes" : "no check was made";
        });
    }

    static void due(String what, Object want, Check.Call call) {
        Check.due(name + ": " + what, want, call);
    }

    /** The call throws just this exception on a row so made, and then the row is as one made alike that was let be. */
    static void refused(String what, Class<? extends RuntimeException> want, Maker maker, Call call) {
        TwistedRow row = maker.make();
        long before = row.digest();
        due(what + " is refused", want, () -> call.on(row));
        due(what + " leaves the digest", before, row::digest);
        due(what + " changes nothing", Rows.everything(maker.make()), () -> Rows.everything(row));
    }

    /** The call changes nothing on a row so made. */
    static void leaves(String what, Object want, Maker maker, Call call) {
        TwistedRow row = maker.make();
        due(what, want, () -> call.on(row));
        due(what + ", nothing is changed", Rows.everything(maker.make()), () -> Rows.everything(row));
    }
}
