import java.lang.reflect.InvocationTargetException;
import java.lang.reflect.Method;
import java.util.Arrays;
import java.util.HashMap;
import java.util.Map;
import java.util.stream.Collectors;

/** A call by its name: it can be told in words, made again, and made on the program and on the model alike. */
record Call(String name, int... args) {
    /** No answer of the document. */
    static final int THREW = Integer.MIN_VALUE;

    private static final Map<String, Method> METHODS = new HashMap<>();

    int on(Object heap) {
        try {
            return (int) method(heap.getClass()).invoke(heap, Arrays.stream(args).boxed().toArray());
        } catch (InvocationTargetException e) {
            System.out.println(this + " threw " + e.getCause());
            return THREW;
        } catch (IllegalAccessException e) {
            throw new IllegalStateException(e);
        }
    }

    private Method method(Class<?> type) {
        return METHODS.computeIfAbsent(type.getName() + "." + name, key -> found(type));
    }

    private Method found(Class<?> type) {
        return Arrays.stream(type.getDeclaredMethods())
                .filter(method -> method.getName().equals(name))
                .findFirst()
                .orElseThrow(() -> new IllegalStateException("no method " + name + " of " + type));
    }

    @Override
    public String toString() {
        return Arrays.stream(args).mapToObj(Integer::toString).collect(Collectors.joining(", ", name + "(", ")"));
    }
}
