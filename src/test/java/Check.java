/** Counts and prints the answers that are not the ones that are due. */
final class Check {
    private static int wrong = 0;
    private static int checked = 0;

    private Check() {
    }

    interface Call {
        Object answer();
    }

    static boolean due(String what, Object want, Call call) {
        checked++;
        Object got;
        try {
            got = call.answer();
        } catch (RuntimeException thrown) {
            got = thrown.getClass();
        }
        if (want.equals(got)) {
            return true;
        }
        wrong++;
        System.out.println(what + " answered " + got + ", due is " + want);
        return false;
    }

    /** The call throws just this exception, not a class below it, and changes nothing. */
    static void refused(TwistedRow row, String what, Class<? extends RuntimeException> want, Call call) {
        long before = row.digest();
        due(what, want, call);
        due(what + " leaves the digest", before, row::digest);
    }

    static int soFar() {
        return checked;
    }

    static void finish() {
        System.out.println(checked + " answers looked at, " + wrong + " not as due");
        if (wrong != 0) {
            System.exit(1);
        }
    }
}
