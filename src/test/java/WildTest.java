import java.lang.reflect.Method;
import java.lang.reflect.Modifier;
import java.util.ArrayList;
import java.util.Comparator;
import java.util.List;
import java.util.Random;

/** Wild arguments in wild states: no call throws, and the same calls give the same answers. */
public final class WildTest {
    private static final int[] WILD = {Integer.MIN_VALUE, Integer.MAX_VALUE, -2, -1, 16, 30, 31, 300, 399, 400, 719, 720, 999, 1000,
        1440, 1441, 10000, 10001, 28800, 575999, 576000, 0x72696e67, 0x20312077, 0x68656e20, 0x313d313b};

    private static Object[] arguments(Method m, Random r) {
        Object[] all = new Object[m.getParameterCount()];
        for (int i = 0; i < all.length; i++) {
            if (m.getParameterTypes()[i] == boolean.class) all[i] = r.nextInt(4) == 0;
            else if (r.nextInt(10) == 0) all[i] = WILD[r.nextInt(WILD.length)];
            else all[i] = r.nextInt(r.nextInt(6) == 0 ? 1500 : 9) - 1;
        }
        return all;
    }

    private static long run(List<Method> methods, int seed) {
        Random r = new Random(seed);
        HallClock x = new HallClock();
        long sum = 0;
        for (int i = 0; i < 512; i++) {
            Method m = methods.get(r.nextInt(methods.size()));
            Object[] given = arguments(m, r);
            try {
                sum = sum * 31 + m.invoke(x, given).hashCode();
            } catch (ReflectiveOperationException e) {
                System.out.println("run " + seed + ", call " + i + ": " + m.getName() + List.of(given) + ": " + e.getCause());
                System.exit(1);
            }
        }
        return sum;
    }

    public static void main(String[] args) {
        int runs = args.length > 0 ? Integer.parseInt(args[0]) : 300;
        List<Method> methods = new ArrayList<>();
        for (Method m : HallClock.class.getDeclaredMethods()) if (Modifier.isPublic(m.getModifiers())) methods.add(m);
        methods.sort(Comparator.comparing(Method::getName));
        for (int seed = 0; seed < runs; seed++) {
            if (run(methods, seed) != run(methods, seed)) {
                System.out.println("run " + seed + " gave other answers the second time");
                System.exit(1);
            }
        }
        System.out.println("no call threw");
    }
}
