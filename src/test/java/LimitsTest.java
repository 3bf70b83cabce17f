import com.sun.management.ThreadMXBean;
import java.lang.management.ManagementFactory;
import java.lang.reflect.Method;

/** Full tables, arguments of every kind, and what calls cost in objects. */
public final class LimitsTest {
    private static final int[] ODD = {Integer.MIN_VALUE, Integer.MIN_VALUE + 1, -100, -3, -2, -1, 0, 1, 2, 3, 5, 6, 8, 15, 16, 17,
        31, 32, 33, 59, 60, 61, 63, 64, 99, 100, 399, 400, 401, 1 << 30, Integer.MAX_VALUE - 1, Integer.MAX_VALUE};
    private static int wrong;
    private static int asked;

    public static void main(String[] args) throws Exception {
        deepTables();
        oddArguments();
        noObjects();
        System.out.println("LimitsTest: " + asked + " answers, " + wrong + " are wrong");
        if (wrong != 0) {
            System.exit(1);
        }
    }

    private static void due(String call, long got, long want) {
        asked++;
        if (got != want && wrong++ < 20) {
            System.out.println(call + " answered " + got + ", due is " + want);
        }
    }

    /** Sixty addresses as far from one another as they can be, each of its own way. */
    private static void deepTables() throws Exception {
        long[] rows = {2222222222222222L, 666662L, 266666L, 44444444L, 3333333335L, 5555552L};
        for (long row : rows) {
            RouteStrides x = new RouteStrides();
            Model m = new Model();
            due("strides", x.strides(row), m.strides(row));
            for (int i = 0; i < 60; i++) {
                int at = Integer.reverse(i) | 0xA5A5;
                due("add", x.add(at, 32, i, i % 10), m.add(at, 32, i, i % 10));
                due("count(8)", x.count(8), m.count(8));
            }
            for (int what = 0; what < 13; what++) {
                due("count(" + what + ") of " + row, x.count(what), m.count(what));
            }
            due("steps", x.steps(), m.steps());
            due("best(16, 0)", x.best(16, 0), m.best(16, 0));
            due("best(16, 1)", x.best(16, 1), m.best(16, 1));
            due("best(6, 1)", x.best(6, 1), m.best(6, 1));
            due("fewest", x.fewest(-1, 0), m.fewest(-1, 0));
            due("gather", x.gather(), m.gather());
            for (int n = 0; n <= m.count(3); n++) {
                for (int what = 0; what < 6; what++) {
                    due("node(" + n + ", " + what + ") of " + row, x.node(n, what), m.node(n, what));
                }
            }
            due("no room", x.range(5, 5, 1, 1), -3);
        }
    }

    /** Each call with arguments of every kind: nothing may throw, and all is as in the model. */
    private static void oddArguments() throws Exception {
        for (Method call : RouteStrides.class.getDeclaredMethods()) {
            if (!java.lang.reflect.Modifier.isPublic(call.getModifiers())) {
                continue;
            }
            Method same = Model.class.getDeclaredMethod(call.getName(), call.getParameterTypes());
            RouteStrides x = new RouteStrides();
            Model m = new Model();
            for (int i = 0; i < 12; i++) {
                due("add", x.add(i << 28, 4 + i, i % 5, 0), m.add(i << 28, 4 + i, i % 5, 0));
            }
            due("keep", x.keep(0), m.keep(0));
            due("feed", x.feed(1, 2, 3, 4, 5), m.feed(1, 2, 3, 4, 5));
            java.util.Random chance = new java.util.Random(7);
            for (int i = 0; i < 1500; i++) {
                Object[] told = new Object[call.getParameterCount()];
                for (int j = 0; j < told.length; j++) {
                    int odd = ODD[chance.nextInt(ODD.length)];
                    told[j] = call.getParameterTypes()[j] == long.class ? (Object) ((long) odd << chance.nextInt(33)) : (Object) odd;
                }
                long got = ((Number) call.invoke(x, told)).longValue();
                long want = ((Number) same.invoke(m, told)).longValue();
                due(call.getName() + java.util.Arrays.toString(told), got, want);
                if (call.getName().equals("best") && i > 60) {
                    break;
                }
            }
        }
    }

    private static long use(RouteStrides x) {
        long sum = 0;
        for (int i = 0; i < 40; i++) {
            sum += x.add(i << 26, 6 + i % 27, i % 50, 1) + x.would(i << 20, 32, 3, 3) + x.count(8) + x.count(4);
            sum += x.range(i * 1000, i * 1001 + 7, 1, 1) + x.gather() + x.fewest(1, 1) + x.best(9, 1) + x.own(0, 2, 1);
            sum += x.feed(0x302E302E, 0x302E302F, 0x303D3120, 0x32202020, 0x3B202020) + x.differs(0, 0);
            sum += x.look(i << 26, 3) + x.path(i << 26, 1) + x.steps() + x.keep(i & 1) + x.undo() + x.span(3, 1);
        }
        return sum + x.tell() + x.back(0);
    }

    private static void noObjects() {
        ThreadMXBean threads = (ThreadMXBean) ManagementFactory.getThreadMXBean();
        long me = Thread.currentThread().getId();
        use(new RouteStrides());
        long start = threads.getThreadAllocatedBytes(me);
        RouteStrides x = new RouteStrides();
        long made = threads.getThreadAllocatedBytes(me);
        use(x);
        long used = threads.getThreadAllocatedBytes(me);
        due("bytes of a new object are below 400,000", made - start < 400_000 ? 1 : 0, 1);
        due("bytes of 640 calls are below 1,000", used - made < 1_000 ? 1 : 0, 1);
    }
}
