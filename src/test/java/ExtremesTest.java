import java.lang.reflect.InvocationTargetException;
import java.lang.reflect.Method;
import java.lang.reflect.Modifier;
import java.util.NoSuchElementException;

/**
 * Every method with the smallest, the largest and near numbers in each place, on objects in several
 * states: nothing is thrown but what promise 7 names, and that only where it says so.
 */
public final class ExtremesTest {
    private static final long[] FEW = {Integer.MIN_VALUE, -1, 0, 1, 2, 5, Integer.MAX_VALUE};
    private static final long[] MANY = {Integer.MIN_VALUE, Integer.MIN_VALUE + 1, -2, -1, 0, 1, 2, 3, 4, 5,
        6, 7, 8, 9, 10, 11, 12, 39, 40, 41, 59, 60, 61, 99, 100, 480, 481, Integer.MAX_VALUE - 1,
        Integer.MAX_VALUE};
    private static final int CALLS = 200;

    public static void main(String[] args) throws IllegalAccessException {
        Twins.Maker[] makers = {BentWords::new, Twins::bare, Twins::busy, ExtremesTest::full};
        for (Twins.Maker maker : makers) {
            for (Method m : BentWords.class.getDeclaredMethods()) {
                if (Modifier.isPublic(m.getModifiers())) {
                    tuples(m, maker);
                }
            }
        }
        Check.finish();
    }

    /** As much of everything as there can be. */
    private static BentWords full() {
        BentWords x = Check.with("noun a 0;noun b 1;noun c 2;noun d 0;noun e 1;noun abcdefgh 2;"
            + "article 0 0 0 abcdefgh;pronoun 3 1 2 abcdefgh;"
            + "message m @0 0 @0 0 @0 0 @0 0 @0 0 @0 0 @0 0 @0 0;message n =0 1 !1 2 $2;"
            + "message o #2 3 %2 3;message p x");
        for (int i = 0; i < 4; i++) {
            Twins.script(x, "fill 2 9 99" + ";strict 1".repeat(11));
        }
        x.ways(40, 1);
        x.image();
        x.ways(40, 2);
        x.ways(40, 3);
        for (int hole = 0; hole < 3; hole++) {
            x.fill(hole, 5, 1);
        }
        return Check.put(x, "x".repeat(480));
    }

    private static void tuples(Method m, Twins.Maker maker) throws IllegalAccessException {
        Class<?>[] types = m.getParameterTypes();
        long[] values = types.length > 2 ? FEW : MANY;
        int all = 1;
        for (int i = 0; i < types.length; i++) {
            all *= values.length;
        }
        BentWords x = null;
        for (int k = 0; k < all; k++) {
            if (k % CALLS == 0) {
                x = maker.make();
            }
            Object[] arguments = new Object[types.length];
            int rest = k;
            for (int i = 0; i < types.length; i++) {
                arguments[i] = argument(types[i], values[rest % values.length]);
                rest /= values.length;
            }
            call(m, x, arguments);
        }
    }

    private static Object argument(Class<?> type, long value) {
        if (type == boolean.class) {
            return value % 2 == 0;
        }
        if (type == long.class) {
            boolean extreme = value == Integer.MIN_VALUE || value == Integer.MAX_VALUE;
            return !extreme ? value : value < 0 ? Long.MIN_VALUE : Long.MAX_VALUE;
        }
        return (int) value;
    }

    private static void call(Method m, BentWords x, Object[] arguments) throws IllegalAccessException {
        boolean due = m.getName().equals("noun") && ((int) arguments[0] < 0
            || (int) arguments[0] >= x.count(0) || (int) arguments[1] < 0 || (int) arguments[1] > 2);
        Throwable thrown = null;
        try {
            m.invoke(x, arguments);
        } catch (InvocationTargetException e) {
            thrown = e.getCause();
        }
        boolean named = thrown != null && thrown.getClass() == NoSuchElementException.class;
        String call = m.getName() + java.util.Arrays.toString(arguments);
        Check.due(call + " throws " + thrown, thrown != null, due);
        Check.due(call + " throws what promise 7 names", thrown == null || named, true);
    }
}
