import java.lang.reflect.Method;
import java.util.HashMap;
import java.util.Map;

/** Calls told in a text: a name and its arguments, as "stone 0 29"; MIN and MAX are the least and the largest int. */
final class Calls {
    private static final Map<String, Method> FACE = face();

    private Calls() {
    }

    static long answer(ToothField x, String call) {
        String[] words = call.split(" ");
        Method method = FACE.get(words[0]);
        if (method == null || method.getParameterCount() != words.length - 1) {
            throw new IllegalArgumentException("no such call: " + call);
        }
        Object[] arguments = new Object[words.length - 1];
        for (int a = 0; a < arguments.length; a++) {
            arguments[a] = argument(words[a + 1], method.getParameterTypes()[a]);
        }
        try {
            return ((Number) method.invoke(x, arguments)).longValue();
        } catch (ReflectiveOperationException e) {
            throw new IllegalStateException(call, e);
        }
    }

    private static Object argument(String word, Class<?> type) {
        if (type == boolean.class) {
            return word.equals("true");
        }
        switch (word) {
            case "MIN":
                return Integer.MIN_VALUE;
            case "MAX":
                return Integer.MAX_VALUE;
            default:
                return Integer.valueOf(word);
        }
    }

    private static Map<String, Method> face() {
        Map<String, Method> face = new HashMap<>();
        for (Method m : ToothField.class.getDeclaredMethods()) {
            face.put(m.getName(), m);
        }
        return face;
    }
}
