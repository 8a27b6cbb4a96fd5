import java.lang.reflect.InvocationTargetException;
import java.lang.reflect.Method;
import java.util.HashMap;
import java.util.Map;

/**
 * An object of DeafArray or of ModelArray whose calls are told as texts: "deaf(4)", "feed(MIN, 0, 0, 0, MAX)". It
 * counts them, as the document leaves free what an object answers behind its 512th call: no test goes that far.
 */
final class Calls {
    static final int MOST = 512;
    private static final Map<String, Method> METHODS = methodsOf(DeafArray.class);
    private static final Map<String, Method> MODEL_METHODS = methodsOf(ModelArray.class);

    private final Object object;
    private final Map<String, Method> methods;
    private int used;

    private Calls(Object object, Map<String, Method> methods) {
        this.object = object;
        this.methods = methods;
    }

    static Calls onClass() {
        return new Calls(new DeafArray(), METHODS);
    }

    static Calls onModel() {
        return new Calls(new ModelArray(), MODEL_METHODS);
    }

    /** By name and count of parameters: the model has private methods of the same names. */
    private static Map<String, Method> methodsOf(Class<?> type) {
        Map<String, Method> found = new HashMap<>();
        for (Method method : type.getDeclaredMethods()) {
            boolean numbersAlone = true;
            for (Class<?> parameter : method.getParameterTypes()) {
                numbersAlone &= parameter == int.class;
            }
            if (numbersAlone && (method.getReturnType() == int.class || method.getReturnType() == long.class)) {
                found.put(method.getName() + "/" + method.getParameterCount(), method);
            }
        }
        return found;
    }

    long answer(String call) {
        int open = call.indexOf('(');
        String between = call.substring(open + 1, call.length() - 1);
        String[] told = between.isEmpty() ? new String[0] : between.split(", ");
        Object[] arguments = new Object[told.length];
        for (int i = 0; i < told.length; i++) {
            arguments[i] = numberOf(told[i]);
        }
        return answer(call.substring(0, open), arguments);
    }

    private static int numberOf(String told) {
        switch (told) {
            case "MIN":
                return Integer.MIN_VALUE;
            case "MAX":
                return Integer.MAX_VALUE;
            default:
                return Integer.parseInt(told);
        }
    }

    private long answer(String name, Object... arguments) {
        used++;
        if (used > MOST) {
            throw new IllegalStateException("an object is used for " + MOST + " calls at most");
        }
        Method method = methods.get(name + "/" + arguments.length);
        if (method == null) {
            throw new IllegalStateException("there is no call " + name + " of " + arguments.length);
        }
        try {
            return ((Number) method.invoke(object, arguments)).longValue();
        } catch (InvocationTargetException thrown) {
            throw new IllegalStateException(name + java.util.Arrays.toString(arguments) + " threw", thrown.getCause());
        } catch (IllegalAccessException hidden) {
            throw new IllegalStateException(name, hidden);
        }
    }

    int used() {
        return used;
    }
}
