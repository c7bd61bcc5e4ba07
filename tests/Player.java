import java.lang.reflect.InvocationTargetException;
import java.lang.reflect.Method;

/** Plays a call that is told by its name and its arguments; a boolean counts 1 or 0. */
final class Player {
    private Player() {
    }

    static int answer(SharesComing x, String name, String[] told) {
        try {
            Method method = named(name);
            Object answer = method.invoke(x, arguments(method, told));
            return answer instanceof Boolean ? number(answer.toString()) : (Integer) answer;
        } catch (IllegalAccessException | InvocationTargetException fault) {
            throw new IllegalStateException(name, fault);
        }
    }

    static int number(String told) {
        if (told.equals("true") || told.equals("false")) {
            return told.equals("true") ? 1 : 0;
        }
        return told.equals("NONE") ? SharesComing.NONE : told.equals("VOID") ? SharesComing.VOID : Integer.parseInt(told);
    }

    private static Method named(String name) {
        for (Method method : SharesComing.class.getMethods()) {
            if (method.getName().equals(name)) {
                return method;
            }
        }
        throw new IllegalStateException("no such call: " + name);
    }

    private static Object[] arguments(Method method, String[] told) {
        Class<?>[] types = method.getParameterTypes();
        if (types.length != told.length) {
            throw new IllegalStateException("not so many arguments: " + method.getName());
        }
        Object[] arguments = new Object[types.length];
        for (int place = 0; place < types.length; place++) {
            int number = number(told[place]);
            arguments[place] = types[place] == boolean.class ? (Object) (number == 1) : (Object) number;
        }
        return arguments;
    }
}
