import java.lang.reflect.InvocationTargetException;
import java.lang.reflect.Method;

/** Calls written as texts, such as "told(1, 0)", are made on an object of the class. */
final class Calls {
    private Calls() {
    }

    /** What the call answers (a boolean counts 1 or 0), or throws. and the name of what it threw. */
    static String outcome(ExchangeText x, String call) {
        int open = call.indexOf('(');
        String inside = call.substring(open + 1, call.length() - 1);
        String[] given = inside.isEmpty() ? new String[0] : inside.split(", ");
        Method method = methodOf(call.substring(0, open));
        try {
            Object answer = method.invoke(x, arguments(method, given));
            return answer instanceof Boolean b ? (b ? "1" : "0") : answer.toString();
        } catch (InvocationTargetException e) {
            return "throws." + e.getCause().getClass().getSimpleName();
        } catch (IllegalAccessException e) {
            throw new IllegalStateException("the test's own call cannot be made: " + call, e);
        }
    }

    private static Method methodOf(String name) {
        for (Method method : ExchangeText.class.getMethods()) {
            if (method.getDeclaringClass() == ExchangeText.class && method.getName().equals(name)) {
                return method;
            }
        }
        throw new IllegalStateException("the class has no call " + name);
    }

    private static Object[] arguments(Method method, String[] given) {
        Class<?>[] types = method.getParameterTypes();
        if (types.length != given.length) {
            throw new IllegalStateException("the test's own call has other arguments than " + method);
        }
        Object[] arguments = new Object[given.length];
        for (int i = 0; i < given.length; i++) {
            if (types[i] == int.class) {
                arguments[i] = Integer.valueOf(given[i]);
            } else {
                arguments[i] = Long.valueOf(given[i]);
            }
        }
        return arguments;
    }
}
