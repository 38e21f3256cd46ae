import java.util.ArrayList;
import java.util.List;

/** Looks whether calls answer what a text tells of them. Public, as examples are compiled apart and loaded later. */
public final class Told {
    private final List<String> faults = new ArrayList<>();

    public interface Call {
        Object answer();
    }

    public void answers(String example, Object told, Call call) {
        Object got;
        try {
            got = call.answer();
        } catch (RuntimeException thrown) {
            got = "throws " + thrown.getClass().getSimpleName();
        }
        if (!plain(told).equals(plain(got))) {
            faults.add(example + " tells " + told + ", but the class answers " + got);
        }
    }

    /** The call throws just this exception, and the row is then as it was. */
    public void refuses(String example, Class<?> told, TwistedRow row, Call call) {
        long before = row.digest();
        String got;
        try {
            got = "answers " + call.answer();
        } catch (RuntimeException thrown) {
            got = "throws " + thrown.getClass().getSimpleName();
        }
        if (!got.equals("throws " + told.getSimpleName())) {
            faults.add(example + " tells that it throws " + told.getSimpleName() + ", but the class " + got);
        }
        if (row.digest() != before) {
            faults.add(example + " throws, but changes the row");
        }
    }

    public List<String> faults() {
        return faults;
    }

    /** An int and a long are told in the same way. */
    private static Object plain(Object value) {
        return value instanceof Integer ? Long.valueOf((Integer) value) : value;
    }
}
