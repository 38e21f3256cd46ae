import java.lang.reflect.Constructor;
import java.lang.reflect.Field;
import java.lang.reflect.Method;
import java.lang.reflect.Modifier;
import java.util.Set;
import java.util.TreeSet;

/** The face is the document's, and nothing else is to be seen from outside (rule 1 of LANGUAGE.md). */
public final class FaceTest {
    private static final String[] FACE = {
        "public static final int NONE",
        "public TwistedRow()",
        "public int begin(int) throws IllegalArgumentException",
        "public int addTurn(int,int,int) throws IndexOutOfBoundsException,IllegalArgumentException,IllegalStateException",
        "public int dropTurn() throws IllegalStateException",
        "public int allow(int) throws IllegalArgumentException",
        "public int exchange(int,int) throws IndexOutOfBoundsException",
        "public int make(int) throws IndexOutOfBoundsException,IllegalStateException",
        "public int solve()",
        "public int append(int) throws IllegalArgumentException,IllegalStateException",
        "public int clearInput()",
        "public int firstError(boolean)",
        "public int load() throws IllegalArgumentException",
        "public int run() throws IllegalArgumentException,IllegalStateException",
        "public int order() throws IllegalArgumentException",
        "public int group(int) throws IllegalArgumentException",
        "public int basicOrbit(int) throws IndexOutOfBoundsException",
        "public int layer(int)",
        "public int length()",
        "public int wordMove(int)",
        "public long words()",
        "public int phase(int,int) throws IllegalArgumentException",
        "public int ifForbidden(int,int) throws IndexOutOfBoundsException,IllegalArgumentException,IllegalStateException",
        "public int tile(int) throws IndexOutOfBoundsException",
        "public int source(int,int) throws IndexOutOfBoundsException",
        "public boolean commute(int,int) throws IndexOutOfBoundsException",
        "public int count(int) throws IllegalArgumentException",
        "public double meanLength()",
        "public long digest()",
    };

    private static String plain(String told) {
        return told.replace("TwistedRow.", "").replace("java.lang.", "");
    }

    public static void main(String[] args) {
        Set<String> seen = new TreeSet<>();
        Set<String> names = new TreeSet<>();
        for (Field field : TwistedRow.class.getDeclaredFields()) {
            if (!Modifier.isPrivate(field.getModifiers())) {
                seen.add(plain(field.toString()));
            }
            if (Modifier.isStatic(field.getModifiers())) {
                Check.due(field.getName() + " is final", true, () -> Modifier.isFinal(field.getModifiers()));
            }
        }
        for (Constructor<?> constructor : TwistedRow.class.getDeclaredConstructors()) {
            seen.add(plain(constructor.toString()));
        }
        for (Method method : TwistedRow.class.getDeclaredMethods()) {
            if (!Modifier.isPrivate(method.getModifiers())) {
                seen.add(plain(method.toString()));
                names.add(method.getName());
            }
        }
        Check.due("the class", "public final class TwistedRow",
            () -> Modifier.toString(TwistedRow.class.getModifiers()) + " " + TwistedRow.class);
        Check.due("the face", new TreeSet<>(Set.of(FACE)), () -> seen);
        for (Class<?> inside : TwistedRow.class.getDeclaredClasses()) {
            Check.due(inside + " is static", true, () -> Modifier.isStatic(inside.getModifiers()));
            for (Method method : inside.getDeclaredMethods()) {
                Check.due(method + " has a name of its own", false, () -> names.contains(method.getName()));
            }
        }
        for (Method method : TwistedRow.class.getDeclaredMethods()) {
            if (Modifier.isPrivate(method.getModifiers())) {
                Check.due(method + " has a name of its own", false, () -> names.contains(method.getName()));
            }
        }
        Check.finish();
    }
}
