import java.lang.reflect.InvocationTargetException;
import java.lang.reflect.Method;
import java.util.Arrays;
import java.util.stream.Collectors;

/** A call of the document's face by its name, so that it can be told, and made again on another object. */
record Call(String name, int... numbers) {
    long on(PostRelief object) {
        for (Method method : PostRelief.class.getMethods()) {
            if (method.getName().equals(name) && method.getParameterCount() == numbers.length) {
                return answer(method, object);
            }
        }
        throw new IllegalArgumentException("a test makes a call that is not of the face: " + this);
    }

    private long answer(Method method, PostRelief object) {
        try {
            return ((Number) method.invoke(object, Arrays.stream(numbers).boxed().toArray())).longValue();
        } catch (InvocationTargetException thrown) {
            throw new IllegalStateException(this + " threw", thrown.getCause());
        } catch (IllegalAccessException hidden) {
            throw new IllegalStateException(this + " is not public", hidden);
        }
    }

    @Override
    public String toString() {
        return name + Arrays.stream(numbers).mapToObj(String::valueOf).collect(Collectors.joining(", ", "(", ")"));
    }
}
