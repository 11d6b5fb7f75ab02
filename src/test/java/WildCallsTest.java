import java.lang.reflect.InvocationTargetException;
import java.lang.reflect.Method;
import java.lang.reflect.Modifier;
import java.util.ArrayList;
import java.util.Comparator;
import java.util.List;
import java.util.Random;

/** Calls with any arguments, far beyond the 512th, must all come back; what is thrown ends this test as failed. */
public final class WildCallsTest {
    private static final int RUNS = 60;
    private static final int CALLS = 4000;
    private static final int[] EXTREMES = {Integer.MIN_VALUE, Integer.MIN_VALUE + 1, Integer.MAX_VALUE - 1,
        Integer.MAX_VALUE, -1, -2, 31, 32, 33, 63, 64, 95, 96, 97, 127, 255, 1 << 16, 1 << 30};

    public static void main(String[] args) throws IllegalAccessException, InvocationTargetException {
        List<Method> methods = publicMethods();
        int came = 0;
        for (int run = 0; run < RUNS; run++) {
            Random random = new Random(run);
            CalendarReplicas x = new CalendarReplicas();
            for (int call = 0; call < CALLS; call++) {
                Method method = methods.get(random.nextInt(methods.size()));
                method.invoke(x, arguments(random, method.getParameterCount()));
                came++;
            }
        }
        Check.due("calls that came back", came, RUNS * CALLS);
        Check.end();
    }

    /** Sorted, since the order in which a class tells its methods may be another one elsewhere. */
    private static List<Method> publicMethods() {
        List<Method> methods = new ArrayList<>();
        for (Method method : CalendarReplicas.class.getDeclaredMethods()) {
            if (Modifier.isPublic(method.getModifiers())) {
                methods.add(method);
            }
        }
        methods.sort(Comparator.comparing(Method::getName));
        return methods;
    }

    private static Object[] arguments(Random random, int count) {
        Object[] arguments = new Object[count];
        for (int i = 0; i < count; i++) {
            int kind = random.nextInt(12);
            if (kind == 0) {
                arguments[i] = EXTREMES[random.nextInt(EXTREMES.length)];
            } else {
                arguments[i] = kind == 1 ? random.nextInt() : random.nextInt(kind < 7 ? 3 : 100);
            }
        }
        return arguments;
    }
}
