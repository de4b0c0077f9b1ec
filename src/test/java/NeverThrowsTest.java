import java.lang.reflect.InvocationTargetException;
import java.lang.reflect.Method;
import java.lang.reflect.Modifier;
import java.util.ArrayList;
import java.util.Comparator;
import java.util.List;
import java.util.Random;

/** Every call with numbers from the edges, in many states: none may throw. */
public final class NeverThrowsTest {
    private static final int[] EDGES = {Integer.MIN_VALUE, Integer.MIN_VALUE + 1, -1000, -2, -1, 0, 1, 2, 3,
        4, 5, 6, 7, 8, 12, 13, 19, 20, 21, 39, 40, 41, 59, 60, 61, 126, 127, 128, 255, 1000,
        Integer.MAX_VALUE - 1, Integer.MAX_VALUE};

    public static void main(String[] args) throws Exception {
        List<Method> calls = new ArrayList<>();
        for (Method method : GateNames.class.getDeclaredMethods()) {
            if (Modifier.isPublic(method.getModifiers())) {
                calls.add(method);
            }
        }
        calls.sort(Comparator.comparing(Method::getName));
        int made = 0;
        for (int run = 0; run < 400; run++) {
            Random lots = new Random(run);
            GateNames x = new GateNames();
            if (run % 3 != 0) {
                gate(x, lots);
            }
            for (int k = 0; k < 500; k++) {
                made += call(x, calls.get(lots.nextInt(calls.size())), lots);
            }
        }
        System.out.println(made + " calls, none threw");
    }

    private static void gate(GateNames x, Random lots) {
        int goers = 2 + lots.nextInt(6);
        x.text(0, 3 * goers);
        for (int i = 0; i < goers; i++) {
            x.put(0, 3 * i, "gksmif".charAt(lots.nextInt(6)));
            x.put(0, 3 * i + 1, '0' + lots.nextInt(10));
            x.put(0, 3 * i + 2, '0' + lots.nextInt(10));
        }
        x.gate(0);
    }

    private static int call(GateNames x, Method method, Random lots) throws Exception {
        Object[] numbers = new Object[method.getParameterCount()];
        for (int p = 0; p < numbers.length; p++) {
            boolean edge = lots.nextInt(3) == 0;
            numbers[p] = edge ? EDGES[lots.nextInt(EDGES.length)] : lots.nextInt(8);
        }
        try {
            method.invoke(x, numbers);
        } catch (InvocationTargetException thrown) {
            System.out.println(method.getName() + java.util.Arrays.toString(numbers) + " threw");
            thrown.getCause().printStackTrace(System.out);
            System.exit(1);
        }
        return 1;
    }
}
