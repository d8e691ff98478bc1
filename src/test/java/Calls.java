import java.lang.reflect.InvocationTargetException;
import java.lang.reflect.Method;
import java.util.Map;
import java.util.TreeMap;

/** Calls written as texts, "tie(0, 1, 9)", so that a row of a table is a call and what it is due. */
final class Calls {
    private static final Map<String, Method> FACE = face();

    private Calls() {
    }

    private static Map<String, Method> face() {
        Map<String, Method> face = new TreeMap<>();
        for (Method method : NotLikeThem.class.getDeclaredMethods()) face.put(method.getName(), method);
        return face;
    }

    /** What an object answers; what it throws ends the test. */
    static long answer(NotLikeThem x, String call) {
        int open = call.indexOf('(');
        Method method = FACE.get(call.substring(0, open));
        String inside = call.substring(open + 1, call.length() - 1).trim();
        String[] words = inside.isEmpty() ? new String[0] : inside.split(", *");
        Class<?>[] types = method.getParameterTypes();
        if (words.length != types.length) throw new IllegalArgumentException(call);
        Object[] arguments = new Object[words.length];
        for (int i = 0; i < words.length; i++) arguments[i] = argument(words[i], types[i]);
        try {
            return ((Number) method.invoke(x, arguments)).longValue();
        } catch (IllegalAccessException | InvocationTargetException e) {
            throw new IllegalStateException(call, e);
        }
    }

    private static Object argument(String word, Class<?> type) {
        if (type == boolean.class) return Boolean.valueOf(word);
        if (word.equals("MIN")) return Integer.MIN_VALUE;
        if (word.equals("MAX")) return Integer.MAX_VALUE;
        return Integer.valueOf(word);
    }

    /** A new object behind these calls, none of which may be refused (or find a LEAN below 0). */
    static NotLikeThem town(String... calls) {
        NotLikeThem x = new NotLikeThem();
        for (String call : calls) {
            if (answer(x, call) < 0) throw new IllegalArgumentException(call);
        }
        return x;
    }

    /** All calls that take a PERSON and otherwise what is as told, with # where the PERSON stands. */
    static String[] ofAPerson(int other) {
        return new String[] {
            "tie(#, " + other + ", 0)", "tie(" + other + ", #, 0)", "set(#, 0, 0)", "set(#, 1, 0)", "about(#, 0)",
            "about(#, 1)", "about(#, 2)", "about(#, 3)", "sees(#, " + other + ")", "sees(" + other + ", #)",
            "sum(#, 0)", "lone(#, 0)", "maybe(#)",
        };
    }

    /** All calls that take a DRESS and otherwise what is as told, with # where the DRESS stands. */
    static String[] ofADress() {
        return new String[] {
            "sum(0, #)", "calm(#)", "after(#, 0, 0)", "after(#, 1, 10000)", "run(#, 0, 0)", "run(#, 1, 1)",
            "run(#, 0, 2)", "heat(#)", "lone(0, #)", "may(#, 0)", "mays(#)", "soon(#)", "likely(#, 0, true)",
            "likely(#, 4, false)", "week(#)", "asked(#, 0, 1)", "asked(#, 1, 50)",
        };
    }

    /** All calls that take a WAY and otherwise what is as told, with # where the WAY stands. */
    static String[] ofAWay() {
        return new String[] {
            "after(0, #, 0)", "after(0, #, 1)", "run(0, #, 0)", "run(0, #, 1)", "run(0, #, 2)", "rings(#)",
            "ring(#, 0, 0)", "ring(#, 0, 1)", "ring(#, 0, 2)", "ring(#, 0, 3)", "longest(#)", "asked(0, #, 1)",
            "gain(#, 1, 1, 1, 1)", "order(#, 1, 1, 1)",
        };
    }
}
