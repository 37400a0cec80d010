import java.lang.reflect.InvocationTargetException;
import java.lang.reflect.Method;
import java.lang.reflect.Modifier;
import java.util.HashMap;
import java.util.Map;

/** Calls told by their names and numbers, so that a test can say them in a row; a boolean is told as 0 or 1. */
final class Calls {
    private static final Map<Class<?>, Map<String, Method>> FACES = new HashMap<>();

    private Calls() { }

    private static Map<String, Method> faceOf(Class<?> of) {
        return FACES.computeIfAbsent(of, type -> {
            Map<String, Method> face = new HashMap<>();
            for (Method method : type.getDeclaredMethods()) {
                if (Modifier.isPublic(method.getModifiers())) {
                    face.put(method.getName(), method);
                }
            }
            return face;
        });
    }

    static Iterable<Method> face(Class<?> of) {
        return faceOf(of).values();
    }

    /** The answer as a Long; a text where the call threw, so that it is like no answer. */
    static Object answer(Object on, String name, int... numbers) {
        Method method = faceOf(on.getClass()).get(name);
        if (method == null || method.getParameterCount() != numbers.length) {
            return "no such call: " + told(name, numbers);
        }
        try {
            return ((Number) method.invoke(on, fitted(method, numbers))).longValue();
        } catch (InvocationTargetException e) {
            return "threw " + e.getCause();
        } catch (ReflectiveOperationException e) {
            return "could not be called: " + e;
        }
    }

    private static Object[] fitted(Method method, int[] numbers) {
        Object[] fitted = new Object[numbers.length];
        Class<?>[] types = method.getParameterTypes();
        for (int i = 0; i < numbers.length; i++) {
            fitted[i] = types[i] == boolean.class ? (Object) (numbers[i] != 0) : (Object) numbers[i];
        }
        return fitted;
    }

    static String told(String name, int... numbers) {
        StringBuilder told = new StringBuilder(name).append('(');
        for (int i = 0; i < numbers.length; i++) {
            told.append(i > 0 ? ", " : "");
            told.append(numbers[i] == Integer.MIN_VALUE ? "MIN" : numbers[i] == Integer.MAX_VALUE ? "MAX" : "" + numbers[i]);
        }
        return told.append(')').toString();
    }
}
