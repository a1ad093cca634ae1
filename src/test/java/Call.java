import java.lang.reflect.Method;
import java.lang.reflect.Modifier;
import java.util.Map;
import java.util.TreeMap;

/** Calls of the face by their names, so that a table can hold them. */
final class Call {
    private static final Map<String, Method> FACE = face();

    private Call() {
    }

    private static Map<String, Method> face() {
        Map<String, Method> face = new TreeMap<>();
        for (Method method : SpanBook.class.getDeclaredMethods()) {
            if (Modifier.isPublic(method.getModifiers())) {
                face.put(method.getName(), method);
            }
        }
        return face;
    }

    static String text(String name, int... numbers) {
        StringBuilder text = new StringBuilder(name).append('(');
        for (int i = 0; i < numbers.length; i++) {
            text.append(i == 0 ? "" : ", ").append(numbers[i]);
        }
        return text.append(')').toString();
    }

    static long on(SpanBook x, String name, int... numbers) {
        Object[] boxed = new Object[numbers.length];
        for (int i = 0; i < numbers.length; i++) {
            boxed[i] = numbers[i];
        }
        try {
            return ((Number) FACE.get(name).invoke(x, boxed)).longValue();
        } catch (ReflectiveOperationException e) {
            throw new IllegalStateException(text(name, numbers) + " did not answer", e);
        }
    }

    /** Every call of the face, each number of it the same one. */
    static void each(SpanBook x, int number) {
        for (Map.Entry<String, Method> entry : FACE.entrySet()) {
            int[] numbers = new int[entry.getValue().getParameterCount()];
            java.util.Arrays.fill(numbers, number);
            on(x, entry.getKey(), numbers);
        }
    }
}
