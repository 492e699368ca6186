import java.lang.reflect.InvocationTargetException;
import java.lang.reflect.Method;
import java.util.HashMap;
import java.util.Map;
import java.util.Set;

/** A call of the face by its name, so that it can be made on several objects. */
final class Call {
    private static final Set<String> CHANGING = Set.of("addComponent", "setWeight", "addPerson", "subscribe", "unsubscribe",
        "report", "resolve", "correct", "withdraw", "join", "maintain", "callOff", "pass");
    private static final Map<Class<?>, Map<String, Method>> METHODS = new HashMap<>();

    final String name;
    final Object[] arguments;

    Call(String name, Object... arguments) {
        this.name = name;
        this.arguments = arguments;
    }

    boolean isChanging() {
        return CHANGING.contains(name);
    }

    /** The answer as a text, throws.NAME for what is thrown by a throw statement, machine.NAME for anything else. */
    String on(Object board) {
        try {
            return String.valueOf(method(board.getClass()).invoke(board, arguments));
        } catch (InvocationTargetException e) {
            return thrown(board.getClass(), e.getCause());
        } catch (IllegalAccessException e) {
            throw new IllegalStateException(e);
        }
    }

    private Method method(Class<?> type) {
        Map<String, Method> methods = METHODS.computeIfAbsent(type, Call::publicMethods);
        if (!methods.containsKey(name)) {
            throw new IllegalStateException("no call " + name);
        }
        return methods.get(name);
    }

    private static Map<String, Method> publicMethods(Class<?> type) {
        Map<String, Method> methods = new HashMap<>();
        for (Method method : type.getMethods()) {
            if (method.getDeclaringClass() == type) {
                method.setAccessible(true);
                methods.put(method.getName(), method);
            }
        }
        return methods;
    }

    // What the machine or the library throws has another class, no trace, the machine's text, or a foreign first line.
    private static String thrown(Class<?> type, Throwable cause) {
        StackTraceElement[] trace = cause.getStackTrace();
        boolean own = trace.length > 0 && trace[0].getClassName().split("\\$")[0].equals(type.getName());
        boolean divided = "/ by zero".equals(cause.getMessage());
        return (own && !divided ? "throws." : "machine.") + cause.getClass().getSimpleName();
    }

    @Override
    public String toString() {
        StringBuilder text = new StringBuilder(name).append('(');
        for (int i = 0; i < arguments.length; i++) {
            Object argument = arguments[i];
            text.append(i == 0 ? "" : ", ").append(argument instanceof Character ? "(char) " + (int) (char) argument : argument);
        }
        return text.append(')').toString();
    }
}
