import java.lang.reflect.InvocationTargetException;
import java.lang.reflect.Method;
import java.lang.reflect.Modifier;
import java.util.ArrayList;
import java.util.Arrays;
import java.util.Comparator;
import java.util.List;
import java.util.Random;

/** No call throws, whatever its arguments and whatever the state: every call, with numbers at and beyond all bounds. */
public final class WildCallsTest {
    private static final int[] NUMBERS = {Integer.MIN_VALUE, Integer.MIN_VALUE + 1, -1441, -24, -3, -2, -1, 0, 1, 2, 3, 4, 5, 6, 7, 8, 9,
        10, 11, 12, 13, 14, 15, 16, 19, 20, 21, 23, 24, 25, 60, 99, 100, 120, 400, 401, 1438, 1439, 1440, 1441, 65536,
        Integer.MAX_VALUE - 1439, Integer.MAX_VALUE - 1, Integer.MAX_VALUE};
    private static final int CALLS = 400;

    private WildCallsTest() {
    }

    private static List<Method> face() {
        List<Method> list = new ArrayList<>();
        for (Method m : DownOnly.class.getDeclaredMethods()) {
            if (Modifier.isPublic(m.getModifiers())) {
                list.add(m);
            }
        }
        list.sort(Comparator.comparing(Method::getName));
        return list;
    }

    private static DownOnly begin(Random r) {
        DownOnly x = new DownOnly();
        if (r.nextInt(4) > 0) {
            Texts.house(x, Texts.house(r));
        }
        for (int k = r.nextInt(3); k > 0; k--) {
            Texts.rule(x, Texts.rule(r));
        }
        if (r.nextInt(3) == 0) {
            x.tick(0, 1440);
        }
        return x;
    }

    private static Object[] arguments(Random r, Method m) {
        Object[] list = new Object[m.getParameterCount()];
        for (int k = 0; k < list.length; k++) {
            int number = r.nextBoolean() ? r.nextInt(4) : NUMBERS[r.nextInt(NUMBERS.length)];
            list[k] = m.getParameterTypes()[k] == boolean.class ? (Object) r.nextBoolean() : (Object) number;
        }
        return list;
    }

    public static void main(String[] args) throws IllegalAccessException {
        int objects = args.length > 0 ? Integer.parseInt(args[0]) : 300;
        List<Method> face = face();
        for (int seed = 1; seed <= objects; seed++) {
            Random r = new Random(seed);
            DownOnly x = begin(r);
            for (int k = 0; k < CALLS; k++) {
                Method m = face.get(r.nextInt(face.size()));
                Object[] with = arguments(r, m);
                try {
                    m.invoke(x, with);
                } catch (InvocationTargetException e) {
                    System.out.println("object " + seed + ", call " + k + ": " + m.getName() + Arrays.toString(with) + " threw " + e.getCause());
                    System.exit(1);
                }
            }
        }
        System.out.println(objects * CALLS + " wild calls were answered");
    }
}
