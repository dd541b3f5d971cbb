import java.lang.reflect.InvocationTargetException;
import java.lang.reflect.Method;
import java.util.Arrays;
import java.util.Comparator;
import java.util.Random;

/** Any calls with any arguments, far more of them than an object is promised for: none may throw. */
public final class NeverThrowsTest {
    private static final int[] FAR = {0, 1, 2, -1, -2, 3, 4, 5, 8, 9, 10, 16, 59, 60, 61, 99, 100, 150, 300, 301, 999,
        1000, 1001, 1439, 9999, 10000, 99999, Integer.MAX_VALUE, Integer.MIN_VALUE, 0x676f2031, 0x3b202020};

    public static void main(String[] args) throws Exception {
        Random random = new Random(7);
        Method[] face = Arrays.stream(ThreeDots.class.getDeclaredMethods())
            .filter(m -> java.lang.reflect.Modifier.isPublic(m.getModifiers()))
            .sorted(Comparator.comparing(Method::getName)).toArray(Method[]::new);
        int thrown = 0;
        for (int run = 0; run < 40; run++) {
            ThreeDots x = new ThreeDots();
            for (int call = 0; call < 2000 && thrown < 5; call++) {
                Method m = face[random.nextInt(face.length)];
                Object[] values = new Object[m.getParameterCount()];
                for (int i = 0; i < values.length; i++) {
                    values[i] = m.getParameterTypes()[i] == boolean.class ? (Object) random.nextBoolean()
                        : (Object) value(random);
                }
                try {
                    m.invoke(x, values);
                } catch (InvocationTargetException e) {
                    thrown++;
                    System.out.println(m.getName() + Arrays.toString(values) + " threw " + e.getCause());
                }
            }
        }
        System.out.println(thrown == 0 ? "nothing was thrown" : thrown + " calls threw");
        System.exit(thrown == 0 ? 0 : 1);
    }

    private static int value(Random random) {
        switch (random.nextInt(4)) {
            case 0:
                return random.nextInt();
            case 1:
                return FAR[random.nextInt(FAR.length)];
            default:
                return random.nextInt(12);
        }
    }
}
