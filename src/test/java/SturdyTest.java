import java.lang.reflect.InvocationTargetException;
import java.lang.reflect.Method;
import java.lang.reflect.Modifier;
import java.util.Arrays;
import java.util.Comparator;
import java.util.Random;

/** Any arguments in any state: no call throws, and two objects answer the same calls alike. */
public final class SturdyTest {
    private static final int RUNS = 400;
    private static final int CALLS = 512;
    private static final int[] NUMBERS = {
        Integer.MIN_VALUE, Integer.MIN_VALUE + 1, -1000000, -101, -100, -65, -5, -4, -3, -2, -1, 0, 0, 0, 1, 1, 1, 2, 2, 2,
        3, 3, 4, 5, 6, 7, 8, 11, 12, 13, 15, 16, 17, 23, 24, 25, 31, 32, 47, 48, 63, 64, 65, 99, 100, 101, 399, 400, 401,
        9998, 9999, 10000, 1 << 30, Integer.MAX_VALUE - 1, Integer.MAX_VALUE,
    };
    private static final String[] TEXTS = {
        "grid 4 4;", "grid 1 1;", "grid 3 3;", "grid 4 1;wall 1 below;", "grid 3 4;gap 0 right,5 right;turn 6 below;",
        "grid 2 2;gap 0 right;", "grid 4 4;wall 0 right,5 below;gap 9 right,10 below;turn 3 below;", "grid 2 ", "",
    };

    public static void main(String[] args) throws Exception {
        Method[] methods = PegStrings.class.getDeclaredMethods();
        methods = Arrays.stream(methods).filter(m -> Modifier.isPublic(m.getModifiers())).toArray(Method[]::new);
        Arrays.sort(methods, Comparator.comparing(Method::getName));
        for (int run = 0; run < RUNS; run++) {
            Random random = new Random(run);
            PegStrings x = new PegStrings();
            PegStrings twin = new PegStrings();
            for (int i = 0; i < CALLS; i++) {
                if (random.nextInt(12) == 0) {
                    String text = TEXTS[random.nextInt(TEXTS.length)];
                    int slot = random.nextInt(3);
                    tells(x, slot, text);
                    tells(twin, slot, text);
                }
                Method method = methods[random.nextInt(methods.length)];
                Object[] arguments = arguments(method, random);
                if (!answer(method, x, arguments).equals(answer(method, twin, arguments))) {
                    System.out.println("run " + run + ": two answers of " + method.getName() + Arrays.toString(arguments));
                    System.exit(1);
                }
            }
        }
        System.out.println(RUNS * CALLS + " calls, none threw");
    }

    private static void tells(PegStrings x, int slot, String text) {
        x.end(0);
        for (int i = 0; i < text.length(); i++) {
            x.feed(text.charAt(i) << 24, 0, 0, 0, 0);
            x.end(i + 1);
        }
        x.told(slot);
    }

    private static Object[] arguments(Method method, Random random) {
        Object[] arguments = new Object[method.getParameterCount()];
        for (int i = 0; i < arguments.length; i++) {
            int number = random.nextInt(30) == 0 ? random.nextInt() : NUMBERS[random.nextInt(NUMBERS.length)];
            boolean isLong = method.getParameterTypes()[i] == long.class;
            long wide = random.nextInt(4) == 0 ? random.nextLong() >>> random.nextInt(64) : number;
            arguments[i] = isLong ? (Object) wide : (Object) number;
        }
        return arguments;
    }

    private static Object answer(Method method, PegStrings x, Object[] arguments) throws Exception {
        try {
            return method.invoke(x, arguments);
        } catch (InvocationTargetException thrown) {
            System.out.println(method.getName() + Arrays.toString(arguments) + " threw " + thrown.getCause());
            thrown.getCause().printStackTrace(System.out);
            System.exit(1);
            return null;
        }
    }
}
