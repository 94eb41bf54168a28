import java.lang.reflect.Method;
import java.util.HashMap;
import java.util.Map;

/** An object that is asked by the names of its calls ("stand 0 1 20"), and no more than 512 times. */
final class Asked {
    private static final int MOST_CALLS = 512;
    private static final Map<String, Method> OURS = callsOf(BoardPress.class), PLAINS = callsOf(PlainPress.class);

    private final Object object;
    private final Map<String, Method> calls;
    private int asked = 0;

    private Asked(Object object, Map<String, Method> calls) {
        this.object = object;
        this.calls = calls;
    }

    static Asked press() {
        return new Asked(new BoardPress(), OURS);
    }

    static Asked plain() {
        return new Asked(new PlainPress(), PLAINS);
    }

    private static Map<String, Method> callsOf(Class<?> face) {
        Map<String, Method> calls = new HashMap<>();
        for (Method method : face.getMethods()) {
            if (method.getDeclaringClass() == face) {
                calls.put(method.getName(), method);
            }
        }
        return calls;
    }

    long ask(String call) {
        String[] words = call.split(" ");
        Object[] numbers = new Object[words.length - 1];
        for (int i = 0; i < numbers.length; i++) {
            numbers[i] = number(words[i + 1]);
        }
        return ask(words[0], numbers);
    }

    private static Object number(String word) {
        switch (word) {
            case "true": return true;
            case "false": return false;
            case "MIN": return Integer.MIN_VALUE;
            case "MAX": return Integer.MAX_VALUE;
            default: return Integer.valueOf(word);
        }
    }

    long ask(String name, Object... numbers) {
        if (++asked > MOST_CALLS) {
            throw new IllegalStateException("a test asks more than " + MOST_CALLS + " times");
        }
        if (!calls.containsKey(name)) {
            throw new IllegalStateException("no call has the name " + name);
        }
        try {
            return ((Number) calls.get(name).invoke(object, numbers)).longValue();
        } catch (ReflectiveOperationException e) {
            throw new IllegalStateException(name + " did not answer", e);
        }
    }
}
