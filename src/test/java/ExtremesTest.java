import java.lang.reflect.InvocationTargetException;
import java.lang.reflect.Method;
import java.lang.reflect.Modifier;
import java.util.Arrays;
import java.util.Comparator;
import java.util.Random;

/** Calls with arguments of all sizes: none throws but what its face declares. */
public final class ExtremesTest {
    private static final int[] SIZES = {Integer.MIN_VALUE, Integer.MIN_VALUE + 1, -65536, -100, -2, -1, 0, 0, 0, 1, 1, 1, 2,
        2, 3, 4, 5, 6, 7, 8, 9, 12, 13, 15, 16, 17, 20, 21, 31, 32, 33, 60, 61, 64, 99, 100, 101, 127, 128, 900, 901,
        65534, 65536, 1 << 30, Integer.MAX_VALUE - 1, Integer.MAX_VALUE};

    public static void main(String[] args) throws IllegalAccessException {
        Method[] methods = SpaceWarden.class.getDeclaredMethods();
        methods = Arrays.stream(methods).filter(m -> Modifier.isPublic(m.getModifiers()))
            .sorted(Comparator.comparing(Method::getName)).toArray(Method[]::new);
        for (int run = 0; run < 1000; run++) {
            Random random = new Random(run);
            SpaceWarden x = new SpaceWarden();
            for (int call = 0; call < 512; call++) {
                if (random.nextInt(4) == 0) {
                    x.fork(random.nextInt(4));
                    x.create(random.nextInt(6), random.nextInt(3));
                }
                make(x, methods[random.nextInt(methods.length)], random);
            }
        }
        Check.finish();
    }

    private static void make(SpaceWarden x, Method method, Random random) throws IllegalAccessException {
        Class<?>[] types = method.getParameterTypes();
        Object[] with = new Object[types.length];
        for (int i = 0; i < types.length; i++) {
            if (types[i] == boolean.class) {
                with[i] = random.nextBoolean();
            } else {
                with[i] = SIZES[random.nextInt(SIZES.length)];
            }
        }
        try {
            method.invoke(x, with);
            Check.yes(method.getName(), true);
        } catch (InvocationTargetException e) {
            Check.yes(method.getName() + Arrays.toString(with) + " throws " + e.getCause(),
                Arrays.asList(method.getExceptionTypes()).contains(e.getCause().getClass()));
        }
    }
}
