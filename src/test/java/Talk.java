import java.lang.reflect.InvocationTargetException;
import java.lang.reflect.Method;
import java.util.HashMap;
import java.util.List;
import java.util.Map;

/** A new object that is called by text, as "move(1, 2)", as often as the document allows at most. */
final class Talk {
    private static final int CALLS_MOST = 512;
    private static final Map<String, Method> FACE = face();

    private final TenPledges x = new TenPledges();
    private int calls;

    /** A new object on which these calls have been made. */
    static Talk behind(List<String> history) {
        Talk talk = new Talk();
        for (String call : history) {
            talk.ask(call);
        }
        return talk;
    }

    long ask(String call) {
        calls++;
        if (calls > CALLS_MOST) {
            throw new IllegalStateException("behind the 512th call all is free: " + call);
        }
        int open = call.indexOf('(');
        Method method = FACE.get(call.substring(0, open));
        String inside = call.substring(open + 1, call.length() - 1);
        String[] texts = inside.isEmpty() ? new String[0] : inside.split(", ");
        Object[] values = new Object[texts.length];
        for (int i = 0; i < texts.length; i++) {
            values[i] = method.getParameterTypes()[i] == boolean.class
                    ? (Object) Boolean.valueOf(texts[i]) : (Object) Integer.valueOf(texts[i]);
        }
        try {
            return ((Number) method.invoke(x, values)).longValue();
        } catch (InvocationTargetException e) {
            throw new IllegalStateException("no call may throw: " + call, e.getCause());
        } catch (IllegalAccessException e) {
            throw new IllegalStateException(e);
        }
    }

    private static Map<String, Method> face() {
        Map<String, Method> all = new HashMap<>();
        for (Method method : TenPledges.class.getMethods()) {
            if (method.getDeclaringClass() == TenPledges.class) {
                all.put(method.getName(), method);
            }
        }
        return all;
    }
}
