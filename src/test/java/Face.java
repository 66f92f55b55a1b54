import java.lang.reflect.Method;
import java.lang.reflect.Modifier;
import java.util.HashMap;
import java.util.Map;

/** A desk or the model, called by the names of the document's face, for at most 512 calls. */
final class Face {
    static final int MAX_CALLS = 512;
    private static final Map<String, Method> OF_DESK = methodsOf(ProtocolDesk.class);
    private static final Map<String, Method> OF_MODEL = methodsOf(Model.class);

    private final Object target;
    private final Map<String, Method> methods;
    private int calls;

    Face(ProtocolDesk desk) {
        target = desk;
        methods = OF_DESK;
    }

    Face(Model model) {
        target = model;
        methods = OF_MODEL;
    }

    int calls() {
        return calls;
    }

    int call(String name, long... args) {
        calls++;
        if (calls > MAX_CALLS) {
            throw new IllegalStateException("a test calls an object more often than the document tells");
        }
        Method method = methods.get(name);
        Class<?>[] types = method.getParameterTypes();
        Object[] boxed = new Object[args.length];
        for (int i = 0; i < args.length; i++) {
            if (types[i] == long.class) {
                boxed[i] = args[i];
            } else {
                boxed[i] = Math.toIntExact(args[i]);
            }
        }
        try {
            return (Integer) method.invoke(target, boxed);
        } catch (ReflectiveOperationException e) {
            throw new IllegalStateException(name + " threw", e);
        }
    }

    private static Map<String, Method> methodsOf(Class<?> type) {
        Map<String, Method> found = new HashMap<>();
        for (Method told : ProtocolDesk.class.getDeclaredMethods()) {
            if (Modifier.isPublic(told.getModifiers())) {
                try {
                    found.put(told.getName(), type.getDeclaredMethod(told.getName(), told.getParameterTypes()));
                } catch (NoSuchMethodException e) {
                    throw new IllegalStateException(e);
                }
            }
        }
        return found;
    }
}
