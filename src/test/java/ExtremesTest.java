import java.lang.reflect.InvocationTargetException;
import java.lang.reflect.Method;
import java.lang.reflect.Modifier;

/** Rule 7: no call throws, whatever its arguments, of an empty object, a middling and a full one. */
public final class ExtremesTest {
    private static final Due DUE = new Due("ExtremesTest");
    private static final int[] INTS = {Integer.MIN_VALUE, -41, -1, 0, 1, 2, 3, 7, 8, 40, 63, 255, Integer.MAX_VALUE};
    private static final long[] LONGS = {Long.MIN_VALUE, -1, 0, 5, 0x2020202020202020L, (1L << 48) - 1, Long.MAX_VALUE};

    public static void main(String[] args) throws IllegalAccessException {
        for (int rooms = 0; rooms <= 8; rooms += 4) {
            for (Method m : ChoirWires.class.getDeclaredMethods()) {
                if (Modifier.isPublic(m.getModifiers())) {
                    askAll(m, rooms);
                }
            }
        }
        DUE.end();
    }

    private static ChoirWires filled(int rooms) {
        ChoirWires x = new ChoirWires();
        for (int i = 0; i < rooms; i++) {
            x.room(i % 4);
        }
        for (int i = 0; i < rooms * rooms; i++) {
            x.wire(i / rooms, i % rooms, 1 + i);
        }
        for (int i = 0; i < rooms; i++) {
            x.loss(i);
            x.sheet(i % 4, i % 3, 5 * rooms);
        }
        Choirs.read(x, rooms == 0 ? "" : "a9a9a9.a9a9a9a9a.");
        return x;
    }

    private static void askAll(Method m, int rooms) throws IllegalAccessException {
        ChoirWires x = filled(rooms);
        Class<?>[] types = m.getParameterTypes();
        int[] picks = new int[types.length];
        boolean more = true;
        while (more) {
            ask(m, x, arguments(types, picks));
            more = advance(types, picks);
        }
        DUE.is("rooms behind " + m.getName(), x.count(0), m.getName().equals("room") ? Math.min(8, rooms + 4) : rooms);
    }

    private static int choices(Class<?> type) {
        return type == long.class ? LONGS.length : type == boolean.class ? 2 : INTS.length;
    }

    private static boolean advance(Class<?>[] types, int[] picks) {
        for (int i = 0; i < picks.length; i++) {
            picks[i]++;
            if (picks[i] < choices(types[i])) {
                return true;
            }
            picks[i] = 0;
        }
        return false;
    }

    private static Object[] arguments(Class<?>[] types, int[] picks) {
        Object[] all = new Object[types.length];
        for (int i = 0; i < all.length; i++) {
            if (types[i] == long.class) {
                all[i] = LONGS[picks[i]];
            } else if (types[i] == boolean.class) {
                all[i] = picks[i] == 1;
            } else {
                all[i] = INTS[picks[i]];
            }
        }
        return all;
    }

    private static void ask(Method m, ChoirWires x, Object[] args) throws IllegalAccessException {
        try {
            m.invoke(x, args);
        } catch (InvocationTargetException e) {
            DUE.holds(m.getName() + java.util.Arrays.toString(args) + " threw " + e.getCause(), false);
        }
    }
}
