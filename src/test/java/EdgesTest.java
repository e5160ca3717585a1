import java.lang.reflect.InvocationTargetException;
import java.lang.reflect.Method;
import java.lang.reflect.Modifier;
import java.util.NoSuchElementException;
import java.util.Random;

/** Every call with arguments far off and near the edges: nothing but the face's exceptions, by the class's own throw. */
public final class EdgesTest {
    private static final int[] EDGES = {Integer.MIN_VALUE, Integer.MIN_VALUE + 1, -1000, -21, -2, -1, 0, 1, 2, 3, 4, 5, 6, 7, 9, 10,
        15, 16, 17, 20, 21, 31, 40, 41, 59, 60, 61, 63, 64, 99, 100, 150, 151, 599, 600, 601, 999, 1000, 65536,
        Integer.MAX_VALUE - 1, Integer.MAX_VALUE};
    private static final int CALLS = 200;

    public static void main(String[] args) throws IllegalAccessException {
        Random random = new Random(4);
        for (int i = 0; i < CALLS; i++) {
            all(new BlockedCars(), random);
            BlockedCars full = Check.with("lane 4;lane 4;lane 4;car 2 1 0;car 2 2 1;car 2 3 2;car 2 4 3;car 2 5 4;car 2 6 5;",
                    "swap;swap;again 30[move 0 0 1;];");
            all(full, random);
        }
        Check.end("EdgesTest");
    }

    private static void all(BlockedCars cars, Random random) throws IllegalAccessException {
        for (Method method : BlockedCars.class.getDeclaredMethods()) {
            if (!Modifier.isPublic(method.getModifiers())) {
                continue;
            }
            Object[] values = new Object[method.getParameterCount()];
            StringBuilder told = new StringBuilder(method.getName());
            for (int i = 0; i < values.length; i++) {
                values[i] = EDGES[random.nextInt(EDGES.length)];
                told.append(" ").append(values[i]);
            }
            Check.due(told + " throws nothing of the machine's", isFit(method, cars, values) ? 1 : 0, 1);
        }
    }

    private static boolean isFit(Method method, BlockedCars cars, Object[] values) throws IllegalAccessException {
        try {
            method.invoke(cars, values);
            return true;
        } catch (InvocationTargetException e) {
            Class<?> kind = e.getCause().getClass();
            boolean isOwn = e.getCause().getStackTrace()[0].getClassName().equals("BlockedCars")
                    && e.getCause().getStackTrace()[0].getMethodName().startsWith("need");
            for (Class<?> due : method.getExceptionTypes()) {
                if (due == kind && isOwn) {
                    return kind == NoSuchElementException.class || kind == IllegalArgumentException.class;
                }
            }
            return false;
        }
    }
}
