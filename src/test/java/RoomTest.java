import com.sun.management.ThreadMXBean;
import java.lang.management.ManagementFactory;
import java.lang.reflect.Method;
import java.lang.reflect.Modifier;
import java.util.ArrayList;
import java.util.List;

/** What a run makes on the heap, and that no argument in any state makes a call throw. */
public final class RoomTest {
    private static final int CALLS = 512;
    /** The room of a run is 7.3 million elements; an object of its own may take a small part of it. */
    private static final long MOST_FOR_OBJECT = 160_000, MOST_FOR_CALLS = 20_000;
    private static final ThreadMXBean THREADS = (ThreadMXBean) ManagementFactory.getThreadMXBean();

    private RoomTest() {
    }

    public static void main(String[] args) throws ReflectiveOperationException {
        calls(new OnlyPrimes());
        long ahead = THREADS.getCurrentThreadAllocatedBytes();
        OnlyPrimes x = new OnlyPrimes();
        long made = THREADS.getCurrentThreadAllocatedBytes() - ahead;
        Check.holds("an object of " + made + " bytes is small", made < MOST_FOR_OBJECT);
        ahead = THREADS.getCurrentThreadAllocatedBytes();
        calls(x);
        made = THREADS.getCurrentThreadAllocatedBytes() - ahead;
        Check.holds("calls that make " + made + " bytes make no rows", made < MOST_FOR_CALLS);
        extremes();
        Check.end();
    }

    /** The dearest calls, each with another land or rule than the one ahead of it. */
    private static void calls(OnlyPrimes x) {
        for (int i = 0; i < 5; i++) {
            x.one(i % 4, (i + 1) % 4);
        }
        for (int i = 0; i < 8; i++) {
            x.knot(1 + i);
            x.company(1 + i);
        }
        x.told(1048575);
        for (int i = 0; i < CALLS - 22; i++) {
            switch (i % 14) {
                case 0: x.way(i % 3, i % 3 + 1, i % 5 > 0); break;
                case 1: x.soonest(i % 4); break;
                case 2: x.never(3); break;
                case 3: x.at(3, 2, 4); break;
                case 4: x.tables(3, 3, 12, 24, 0); break;
                case 5: x.ferry(3, 1); break;
                case 6: x.partings(3, 0); break;
                case 7: x.together(3, 0, 7); break;
                case 8: x.row(3, 30, 5000, 3); break;
                case 9: x.image(i % 2); break;
                case 10: x.from(i % 2); break;
                case 11: x.digest(); break;
                case 12: x.type(0x6f6e6530_20303bL, 7); break;
                default: x.read(); x.judged(3); break;
            }
        }
    }

    /** Each call with each row of some odd numbers, on a new object and on a full one. */
    private static void extremes() throws ReflectiveOperationException {
        List<Method> methods = new ArrayList<>();
        for (Method m : OnlyPrimes.class.getDeclaredMethods()) {
            if (Modifier.isPublic(m.getModifiers())) {
                methods.add(m);
            }
        }
        Check.due("public methods", methods.size(), 33);
        int[] odd = {0, 1, 2, 5, -1, 24, 100, Integer.MIN_VALUE, Integer.MAX_VALUE};
        OnlyPrimes full = new OnlyPrimes();
        for (Method m : methods) {
            int rows = (int) Math.pow(odd.length, m.getParameterCount());
            for (int row = 0; row < rows; row++) {
                Object[] args = new Object[m.getParameterCount()];
                int rest = row;
                for (int i = 0; i < args.length; i++) {
                    args[i] = argument(m.getParameterTypes()[i], odd[rest % odd.length]);
                    rest /= odd.length;
                }
                m.invoke(new OnlyPrimes(), args);
                m.invoke(full, args);
            }
            calls(full);
        }
    }

    private static Object argument(Class<?> type, int v) {
        if (type == boolean.class) {
            return v > 0;
        }
        if (type == long.class) {
            return (long) v << 13 ^ v;
        }
        return v;
    }
}
