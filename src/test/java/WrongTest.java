import java.lang.reflect.InvocationTargetException;
import java.lang.reflect.Method;
import java.util.Arrays;
import java.util.Comparator;
import java.util.Random;

/** No call ever throws, whatever it's given, on a new object and on one that is full of all there can be. */
public final class WrongTest {
    private static final int[] ODD = {Integer.MIN_VALUE, Integer.MIN_VALUE + 1, -57601, -10, -2, -1, 0, 1, 2, 3, 5, 7, 9,
        10, 11, 13, 15, 16, 23, 24, 50, 59, 60, 99, 100, 200, 499, 500, 501, 1439, 1440, 2000, 3000, 9999, 57600, 57601,
        99999, 100000, Integer.MAX_VALUE - 1, Integer.MAX_VALUE};

    private WrongTest() {
    }

    public static void main(String[] args) {
        Method[] methods = RiceHall.class.getDeclaredMethods();
        Arrays.sort(methods, Comparator.comparing(Method::toString));
        Random random = new Random(7);
        for (int run = 0; run < 40; run++) {
            RiceHall x = run % 2 == 0 ? new RiceHall() : full();
            for (int i = 0; i < 4000; i++) {
                Method method = methods[random.nextInt(methods.length)];
                if (java.lang.reflect.Modifier.isPublic(method.getModifiers())) {
                    callWith(x, method, random);
                }
            }
        }
        Due.is("nothing was thrown", 0, 0);
        Due.end();
    }

    private static void callWith(RiceHall x, Method method, Random random) {
        Class<?>[] types = method.getParameterTypes();
        Object[] values = new Object[types.length];
        for (int i = 0; i < types.length; i++) {
            values[i] = types[i] == boolean.class ? (Object) random.nextBoolean() : (Object) ODD[random.nextInt(ODD.length)];
        }
        try {
            method.invoke(x, values);
        } catch (InvocationTargetException | IllegalAccessException e) {
            Due.is(method.getName() + Arrays.toString(values) + " threw " + e.getCause(), 1, 0);
        }
    }

    private static RiceHall full() {
        RiceHall x = new RiceHall();
        for (int t = 1; t < 10; t++) {
            x.town();
            x.road(t - 1, t, 1 + t, 100 * t);
        }
        for (int p = 0; p < 16; p++) {
            x.person(p % 10);
            x.pay(p, 1000 * p + 1);
        }
        for (int s = 0; s < 4; s++) {
            x.store();
        }
        for (int i = 0; i < 60; i++) {
            x.issue(i % 4, i % 16, 500, i);
            x.call(i % 16, i % 4, 100);
        }
        Due.rules(x, 0, "burn 600;margin 5000;grace 0;if day<1 and not (wind>3 or rice<5) spoil holder;settle 3;");
        for (int s = 0; s < 23; s++) {
            x.light();
            for (int c = 0; c < 60; c++) {
                x.cry(c * 7 % 16, c % 2 == 0, 50, 100 + c % 5 + s * s);
            }
            x.pass(1);
        }
        x.light();
        return x;
    }
}
