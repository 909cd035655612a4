import java.lang.reflect.InvocationTargetException;
import java.lang.reflect.Method;
import java.util.Arrays;

/** A call of the face told as a text, "test 0 9", which can be made on SaveLoops and on SlowLoops. */
final class Call {
    private final String text;
    private final String name;
    private final long[] numbers;

    Call(String text) {
        this.text = text;
        String[] words = text.split(" ");
        name = words[0];
        numbers = Arrays.stream(words).skip(1).mapToLong(Long::parseLong).toArray();
    }

    static Call[] all(String texts) {
        if (texts.isEmpty()) {
            return new Call[0];
        }
        return Arrays.stream(texts.split(", ")).map(Call::new).toArray(Call[]::new);
    }

    /** Nothing may be thrown by a call, so what is thrown ends the test. */
    long on(Object loops) {
        Method method = methodOf(loops.getClass());
        Object[] given = new Object[numbers.length];
        for (int i = 0; i < given.length; i++) {
            if (method.getParameterTypes()[i] == long.class) {
                given[i] = numbers[i];
            } else {
                given[i] = Math.toIntExact(numbers[i]);
            }
        }
        try {
            return ((Number) method.invoke(loops, given)).longValue();
        } catch (InvocationTargetException thrown) {
            throw new IllegalStateException(text + " threw", thrown.getCause());
        } catch (IllegalAccessException closed) {
            throw new IllegalStateException(text, closed);
        }
    }

    private Method methodOf(Class<?> kind) {
        for (Method method : kind.getDeclaredMethods()) {
            if (method.getName().equals(name) && method.getParameterCount() == numbers.length) {
                return method;
            }
        }
        throw new IllegalStateException("no such call: " + text);
    }

    @Override
    public String toString() {
        return text;
    }
}
