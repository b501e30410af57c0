import java.lang.reflect.InvocationTargetException;
import java.lang.reflect.Method;
import java.lang.reflect.Modifier;
import java.util.HashMap;
import java.util.Map;

/** Calls written as texts, such as "set(0, 1, -5)": the words NONE, MIN and MAX stand for numbers, too. */
final class Calls {
    private static final Map<String, Method> FACE = new HashMap<>();

    static {
        for (Method method : ChantryRolls.class.getDeclaredMethods()) {
            if (Modifier.isPublic(method.getModifiers())) {
                FACE.put(method.getName(), method);
            }
        }
    }

    private Calls() {
    }

    static int make(ChantryRolls x, String call) {
        int open = call.indexOf('(');
        Method method = FACE.get(call.substring(0, open));
        String inside = call.substring(open + 1, call.lastIndexOf(')')).trim();
        String[] numbers = inside.isEmpty() ? new String[0] : inside.split(",");
        Object[] given = new Object[numbers.length];
        for (int i = 0; i < given.length; i++) {
            long v = number(numbers[i].trim());
            given[i] = method.getParameterTypes()[i] == long.class ? (Object) v : (Object) (int) v;
        }
        try {
            return (Integer) method.invoke(x, given);
        } catch (InvocationTargetException e) {
            throw new IllegalStateException(call + " threw", e.getCause());
        } catch (IllegalAccessException e) {
            throw new IllegalStateException(call, e);
        }
    }

    static void makeAll(ChantryRolls x, String... calls) {
        for (String call : calls) {
            make(x, call);
        }
    }

    static long number(String word) {
        switch (word) {
            case "NONE":
                return Checks.NONE;
            case "MIN":
                return Integer.MIN_VALUE;
            case "MAX":
                return Integer.MAX_VALUE;
            default:
                return Long.decode(word.endsWith("L") ? word.substring(0, word.length() - 1) : word);
        }
    }
}
