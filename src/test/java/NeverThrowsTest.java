import java.lang.reflect.InvocationTargetException;
import java.lang.reflect.Method;
import java.lang.reflect.Modifier;
import java.util.Arrays;
import java.util.Comparator;

/** No call throws or fails to end, whatever its numbers are: on a new ball, on a small one and on a full one. */
public final class NeverThrowsTest {
    private static final int[] NUMBERS = {Integer.MIN_VALUE, -5, -4, -1, 0, 1, 2, 4, 9, 15, 16, 20, 23, 24, 60, 63, 64, 65536,
        Integer.MAX_VALUE};
    /** A ball is used for so many of these calls; what makes it takes less than the others of its 512. */
    private static final int CALLS = 300;
    private static final int LEAST_ANSWER = -110, MOST_ANSWER = 192;

    private static int calls;
    private static DanceCards ball;

    private static DanceCards newBall(int kind) {
        if (kind == 0) return new DanceCards();
        DanceCards x = kind == 1 ? Due.ball(2, 3) : Due.ball(8, 8);
        for (int d = 0; d < 24; d += 2) x.fill(d);
        for (int k = 0; k < 3; k++) x.sheet(k, k, 20 * (k + 1));
        for (int i = 0; i < 20; i++) x.lay(0, i, i % 3 == 0 ? 4 : i / 3);
        x.wish(0, 4, 4);
        Due.tell(x, "pair 20; row 20; rank 3; supper 23;");
        Due.type(x, " ".repeat(kind == 1 ? 90 : 100));
        return x;
    }

    private static void tryOne(Method method, Object[] arguments, int kind) {
        if (calls % CALLS == 0) ball = newBall(kind);
        calls++;
        String call = method.getName() + Arrays.toString(arguments) + " on ball " + kind;
        try {
            int answer = (Integer) method.invoke(ball, arguments);
            Due.due(call + " answers " + answer, answer >= LEAST_ANSWER && answer <= MOST_ANSWER ? 1 : 0, 1);
        } catch (InvocationTargetException thrown) {
            Due.due(call + " throws " + thrown.getCause(), 0, 1);
            ball = newBall(kind);
        } catch (IllegalAccessException thrown) {
            throw new IllegalStateException(thrown);
        }
    }

    private static void tryAll(Method method, Object[] arguments, int at, int kind) {
        if (at == arguments.length) {
            tryOne(method, arguments, kind);
            return;
        }
        Class<?> type = method.getParameterTypes()[at];
        for (int number : NUMBERS) {
            if (type == boolean.class) arguments[at] = number % 2 == 0;
            else if (type == long.class) arguments[at] = number * 0x0123456789abcdefL;
            else arguments[at] = number;
            tryAll(method, arguments, at + 1, kind);
        }
    }

    public static void main(String[] args) {
        Method[] methods = DanceCards.class.getDeclaredMethods();
        Arrays.sort(methods, Comparator.comparing(Method::getName));
        for (int kind = 0; kind < 3; kind++) {
            calls = 0;
            for (Method method : methods) {
                if (Modifier.isPublic(method.getModifiers())) tryAll(method, new Object[method.getParameterCount()], 0, kind);
            }
        }
        Due.finish();
    }
}
