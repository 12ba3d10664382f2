import java.lang.reflect.InvocationTargetException;
import java.lang.reflect.Method;
import java.lang.reflect.Modifier;
import java.util.ArrayList;
import java.util.Arrays;
import java.util.Comparator;
import java.util.List;
import java.util.Random;

/** No call throws, for any arguments in any state. */
public final class NeverThrowsTest {
    private static final int RUNS = 1200;
    private static final int CALLS = 300;
    private static final int[] FAR = {Integer.MIN_VALUE, Integer.MIN_VALUE + 1, -1000, -100, -99, -10, -9, -3, -2, -1, 0, 1, 2, 3, 4,
        5, 7, 8, 9, 10, 13, 15, 16, 20, 23, 24, 25, 35, 40, 57, 60, 77, 99, 100, 120, 200, 201, 900, 999, 1000, 3210, 9999,
        Integer.MAX_VALUE - 1, Integer.MAX_VALUE};

    private final Random random;
    private final FourInks x;

    private NeverThrowsTest(int run) {
        random = new Random(run);
        x = run % 3 == 0 ? new FourInks() : run % 3 == 1 ? Twin.busy() : Twin.full();
    }

    public static void main(String[] args) throws IllegalAccessException {
        List<Method> calls = publicCalls();
        Checks.due("calls of the face", calls.size(), 31);
        for (int run = 0; run < RUNS; run++) {
            NeverThrowsTest test = new NeverThrowsTest(run);
            for (int i = 0; i < CALLS; i++) {
                test.call(calls.get(test.random.nextInt(calls.size())));
            }
        }
        Checks.finish();
    }

    private static List<Method> publicCalls() {
        List<Method> calls = new ArrayList<>();
        for (Method method : FourInks.class.getDeclaredMethods()) {
            if (Modifier.isPublic(method.getModifiers())) {
                calls.add(method);
            }
        }
        calls.sort(Comparator.comparing(Method::getName));
        return calls;
    }

    /** Bytes that make TOKENS now and then, and any int. */
    private int any(String name) {
        if (name.equals("feed")) {
            int bytes = 0;
            for (int i = 0; i < 4; i++) {
                bytes = bytes << 8 | "over slack box red 0123456789 -;;\n\t{".charAt(random.nextInt(36));
            }
            return random.nextInt(9) == 0 ? random.nextInt() : bytes;
        }
        if (random.nextInt(20) == 0) {
            return random.nextInt();
        }
        return random.nextInt(3) == 0 ? random.nextInt(5) : FAR[random.nextInt(FAR.length)];
    }

    private void call(Method method) throws IllegalAccessException {
        Object[] given = new Object[method.getParameterCount()];
        for (int i = 0; i < given.length; i++) {
            given[i] = any(method.getName());
        }
        try {
            method.invoke(x, given);
            Checks.due(method.getName(), 0, 0);
        } catch (InvocationTargetException thrown) {
            String call = method.getName() + Arrays.toString(given);
            System.out.println(call + " threw " + thrown.getCause());
            Checks.due(call, 1, 0);
        }
    }
}
