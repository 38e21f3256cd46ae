import java.lang.reflect.InvocationTargetException;
import java.lang.reflect.Method;
import java.util.ArrayList;
import java.util.HashMap;
import java.util.List;
import java.util.Map;

/** Long runs of calls, ordinary and wrong ones, on a row and on the model side by side. */
public final class ModelTest {
    private static final Map<String, Method> ROW = methods(TwistedRow.class);
    private static final Map<String, Method> MODEL = methods(Model.class);
    private static final String[] COMMON = {"exchange", "exchange", "exchange", "make", "make", "length", "words",
        "wordMove", "wordMove", "group", "group", "layer", "basicOrbit", "basicOrbit", "phase", "phase", "phase",
        "ifForbidden", "ifForbidden", "meanLength", "count", "commute", "allow", "allow"};
    private static final String[] RARE = {"addTurn", "addTurn", "addTurn", "dropTurn", "clearInput", "firstError",
        "load", "run", "order", "solve", "solve", "tile", "source"};

    private static final int MOST_CALLS = 512;

    private final TwistedRow row = new TwistedRow();
    private final Model model = new Model();
    private final String name;
    private final int greatest;
    private final StringBuilder told = new StringBuilder();
    private long state;
    private int calls = 0;

    private ModelTest(int seed, int greatest) {
        this.name = "run " + seed;
        this.greatest = greatest;
        this.state = seed * 7919L + 12345L;
    }

    private static Map<String, Method> methods(Class<?> of) {
        Map<String, Method> all = new HashMap<>();
        for (Method method : of.getDeclaredMethods()) {
            if (java.lang.reflect.Modifier.isPublic(method.getModifiers())) {
                all.put(method.getName(), method);
            }
        }
        return all;
    }

    private int number(int below) {
        state = state * 6364136223846793005L + 1442695040888963407L;
        return (int) ((state >>> 33) % below);
    }

    private static Object answer(Method method, Object on, Object[] arguments) {
        try {
            return method.invoke(on, arguments);
        } catch (InvocationTargetException thrown) {
            return thrown.getCause().getClass();
        } catch (IllegalAccessException never) {
            throw new IllegalStateException(never);
        }
    }

    private void call(String method, Object... arguments) {
        if (calls >= MOST_CALLS) {
            return;
        }
        calls++;
        told.append(' ').append(method).append(List.of(arguments));
        Object due = answer(MODEL.get(method), model, arguments);
        boolean right = Check.due(name + ":" + told, due, () -> answer(ROW.get(method), row, arguments));
        if (!right) {
            calls = MOST_CALLS;
        }
    }

    private int placeOrNot() {
        return number(12) == 0 ? number(14) - 3 : number(model.count(0));
    }

    private int moveOrNot() {
        int moves = 2 * model.count(1);
        return moves == 0 || number(12) == 0 ? number(18) - 3 : number(moves);
    }

    private int maskOrNot() {
        if (number(12) == 0) {
            return number(3) == 0 ? Integer.MIN_VALUE + number(5) : number(1 << 14);
        }
        int all = (1 << (2 * model.count(1))) - 1;
        return number(2) == 0 ? all : (number(1 << 12) | number(1 << 12)) & all;
    }

    private Object[] argumentsFor(String method) {
        switch (method) {
            case "exchange":
                return new Object[] {placeOrNot(), placeOrNot()};
            case "make":
                return new Object[] {moveOrNot()};
            case "allow":
                return new Object[] {maskOrNot()};
            case "group":
            case "count":
                return new Object[] {number(7) - 1};
            case "layer":
                return new Object[] {number(12) - 1};
            case "wordMove":
                return new Object[] {number(model.length() + 3) - 1};
            case "basicOrbit":
            case "tile":
                return new Object[] {placeOrNot()};
            case "source":
                return new Object[] {moveOrNot(), placeOrNot()};
            case "commute":
                return new Object[] {moveOrNot(), moveOrNot()};
            case "phase":
                return new Object[] {maskOrNot() & (number(4) == 0 ? -1 : model.count(2)), number(12) == 0 ? 3 : number(3)};
            case "ifForbidden":
                return new Object[] {moveOrNot(), number(12) == 0 ? -1 : number(2)};
            case "addTurn":
                return new Object[] {number(12) == 0 ? 3 : number(3), number(2) == 0 ? 0 : placeOrNot(), placeOrNot()};
            case "firstError":
                return new Object[] {number(2) == 0};
            default:
                return new Object[] {};
        }
    }

    private void appendAll(String text) {
        for (char code : text.toCharArray()) {
            call("append", (int) code);
        }
    }

    private String turnText() {
        List<Integer> digits = new ArrayList<>();
        for (int digit = 0; digit < model.count(0); digit++) {
            digits.add(number(digits.size() + 1), digit);
        }
        StringBuilder text = new StringBuilder();
        digits.forEach(text::append);
        return text.toString();
    }

    private void input() {
        int kind = number(8);
        if (kind <= 2) {
            call("clearInput");
            appendAll(turnText() + (number(3) == 0 ? ";" + turnText() : ""));
            call("firstError", false);
            call(number(6) == 0 ? "run" : "load");
        } else if (kind <= 4) {
            call("clearInput");
            StringBuilder word = new StringBuilder();
            for (int i = number(5); i >= 0; i--) {
                word.append((char) ((number(2) == 0 ? 'a' : 'A') + number(Math.max(1, model.count(1)))));
            }
            appendAll(word.toString());
            call("order");
            call("firstError", true);
            call(number(6) == 0 ? "load" : "run");
        } else if (kind == 5) {
            call("append", number(160) - 10);
        } else {
            appendAll("" + "0123;abFAa76".charAt(number(12)));
            call("firstError", number(2) == 0);
        }
    }

    private void anyCall() {
        if (model.count(1) < 2 && number(3) == 0) {
            call("addTurn", argumentsFor("addTurn"));
        } else if (number(80) == 0) {
            call("begin", number(8) == 0 ? 2 + 7 * number(2) : 3 + number(greatest - 2));
        } else if (number(14) == 0) {
            input();
        } else {
            String[] from = number(7) == 0 ? RARE : COMMON;
            String method = from[number(from.length)];
            call(method, argumentsFor(method));
        }
    }

    private void go(int howMany, int digestEach) {
        while (calls < howMany) {
            anyCall();
            if (calls % digestEach == 0) {
                call("digest");
            }
        }
    }

    private static void large(int places, String turns) {
        ModelTest test = new ModelTest(1000 + places, places);
        test.call("begin", places);
        test.appendAll(turns);
        test.call("load");
        test.call("digest");
        for (int i = 0; i < 3; i++) {
            test.call("exchange", test.number(places), test.number(places));
            test.call("phase", 3 << (2 * i), 2);
            test.call("ifForbidden", i, 0);
            test.call("ifForbidden", i, 1);
            test.call("digest");
        }
        test.call("solve");
    }

    public static void main(String[] args) {
        for (int seed = 1; seed <= 200; seed++) {
            new ModelTest(seed, 5).go(MOST_CALLS, 3);
        }
        for (int seed = 201; seed <= 220; seed++) {
            new ModelTest(seed, 6).go(MOST_CALLS, 7);
        }
        new ModelTest(221, 8).go(300, 50);
        large(7, "6012345;1023456;0321456");
        large(8, "07162534;70123456;10234567");
        Check.finish();
    }
}
