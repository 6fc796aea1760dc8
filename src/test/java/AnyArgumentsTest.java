import java.lang.reflect.InvocationTargetException;
import java.lang.reflect.Method;
import java.lang.reflect.Modifier;
import java.util.ArrayList;
import java.util.Arrays;
import java.util.Comparator;
import java.util.List;
import java.util.Random;

/** Every method with any arguments in any state: none throws, and each answers as the slow Model. */
public final class AnyArgumentsTest {
    private static final Checks c = new Checks();
    private static final int[] ODD = {Integer.MIN_VALUE, Integer.MIN_VALUE + 1, -1000000, -1001, -101, -100, -99, -2, -1,
        0, 0, 1, 1, 2, 2, 3, 4, 5, 9, 10, 11, 15, 16, 20, 23, 24, 30, 32, 99, 100, 101, 400, 999, 1000, 9999, 10000,
        99999, 100000, 999999, 1000000, 1000001, 1 << 30, Integer.MAX_VALUE - 1, Integer.MAX_VALUE};

    public static void main(String[] args) throws ReflectiveOperationException {
        List<Method> face = new ArrayList<>();
        for (Method m : NearlyShut.class.getDeclaredMethods()) {
            if (Modifier.isPublic(m.getModifiers())) face.add(m);
        }
        face.sort(Comparator.comparing(Method::getName));
        for (int seed = 0; seed < 300; seed++) run(face, new Random(seed), seed);
        c.end("AnyArgumentsTest");
    }

    private static void run(List<Method> face, Random random, int seed) throws ReflectiveOperationException {
        NearlyShut x = new NearlyShut();
        Model m = new Model();
        int small = random.nextInt(5);
        for (int i = 0; i < 512; i++) {
            Method method = face.get(random.nextInt(face.size()));
            Object[] args = new Object[method.getParameterCount()];
            for (int j = 0; j < args.length; j++) {
                if (method.getParameterTypes()[j] == boolean.class) args[j] = random.nextBoolean();
                else args[j] = random.nextInt(5) < small ? random.nextInt(3) - random.nextInt(2) : ODD[random.nextInt(ODD.length)];
            }
            // the model tries all sets of stamps
            boolean slow = method.getName().matches("fewest|sure") && m.stamps.size() > 12;
            if (method.getName().equals("part") && random.nextInt(4) != 0) args[3] = 11;
            Object got = call(x, method, args, seed);
            if (slow || got == null) continue;
            Method same = Model.class.getDeclaredMethod(method.getName(), method.getParameterTypes());
            Object want = same.invoke(m, args);
            if (!got.equals(want)) {
                c.due("seed " + seed + ", call " + i + ": " + method.getName() + Arrays.toString(args) + " answered " + got
                    + ", the model says " + want, false, true);
                return;
            }
        }
    }

    private static Object call(NearlyShut x, Method method, Object[] args, int seed) throws IllegalAccessException {
        try {
            return method.invoke(x, args);
        } catch (InvocationTargetException e) {
            c.due("seed " + seed + ": " + method.getName() + Arrays.toString(args) + " threw " + e.getCause(), false, true);
            return null;
        }
    }
}
