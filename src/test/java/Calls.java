import java.lang.reflect.InvocationTargetException;
import java.lang.reflect.Method;
import java.util.HashMap;
import java.util.Map;

/** Calls methods by their names, on the program and on the model alike. */
final class Calls {
    private static final Map<String, Method> FOUND = new HashMap<>();

    private Calls() {
    }

    /** What a call answers, or the name of what it throws, with its package. */
    static Object answer(Object object, String name, Object... arguments) {
        try {
            return find(object, name).invoke(object, arguments);
        } catch (InvocationTargetException thrown) {
            return thrown.getCause().getClass().getName();
        } catch (IllegalAccessException hidden) {
            throw new IllegalStateException(hidden);
        }
    }

    static boolean isRefusal(Object answer) {
        return answer instanceof String;
    }

    /** No two methods of the face have the same name. */
    private static Method find(Object object, String name) {
        return FOUND.computeIfAbsent(object.getClass().getName() + "." + name, unused -> {
            for (Method method : object.getClass().getMethods()) {
                if (method.getName().equals(name)) {
                    return method;
                }
            }
            throw new IllegalStateException("no method " + name);
        });
    }
}
