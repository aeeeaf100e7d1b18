import java.lang.management.ManagementFactory;
import java.lang.reflect.InvocationTargetException;
import java.lang.reflect.Method;
import java.lang.reflect.Modifier;
import java.util.ArrayList;
import java.util.List;
import java.util.Random;

/** No call ever throws, whatever its arguments; and no call makes objects. */
public final class SafetyTest {
    private static final Check CHECK = new Check();
    private static final int[] ODD = {Integer.MIN_VALUE, Integer.MIN_VALUE + 1, -1001, -1000, -128, -3, -2, -1, 0, 1, 2,
        3, 4, 5, 6, 7, 8, 12, 13, 15, 20, 21, 31, 32, 63, 99, 100, 101, 127, 128, 200, 201, 255, 300, 301, 2000, 65536,
        1 << 30, Integer.MAX_VALUE - 1, Integer.MAX_VALUE};

    public static void main(String[] args) {
        anything();
        roomOfCalls();
        CHECK.end("SafetyTest");
    }

    private static List<Method> face() {
        List<Method> list = new ArrayList<>();
        for (Method m : WishBridges.class.getDeclaredMethods()) {
            if (Modifier.isPublic(m.getModifiers())) {
                list.add(m);
            }
        }
        list.sort((a, b) -> a.getName().compareTo(b.getName()));
        return list;
    }

    private static void anything() {
        List<Method> face = face();
        for (int seed = 0; seed < 400; seed++) {
            Random r = new Random(seed);
            TextMaker maker = new TextMaker(r);
            WishBridges x = new WishBridges();
            for (int n = 0; n < 600; n++) {
                if (n % 100 == 1) {
                    Check.read(x, maker.join(r.nextInt(4) == 0 ? maker.amiss() : maker.sound()));
                }
                call(x, face.get(r.nextInt(face.size())), r, seed);
            }
        }
    }

    private static void call(WishBridges x, Method m, Random r, int seed) {
        Object[] args = new Object[m.getParameterCount()];
        for (int i = 0; i < args.length; i++) {
            args[i] = m.getParameterTypes()[i] == boolean.class ? (Object) r.nextBoolean()
                    : (Object) (r.nextInt(2) == 0 ? r.nextInt(8) : ODD[r.nextInt(ODD.length)]);
        }
        boolean threw = false;
        try {
            m.invoke(x, args);
        } catch (InvocationTargetException | IllegalAccessException e) {
            threw = true;
            System.out.println("seed " + seed + ": " + m.getName() + " threw " + e.getCause());
        }
        CHECK.due(m.getName() + " throws", threw, false);
    }

    private static String largestTown() {
        StringBuilder s = new StringBuilder("bank a;bank b;bank c;bank d;bank e;bank f;path a b 1;path b c 9;"
                + "bridge w a;bridge x a b;bridge y a;bridge z a c;");
        for (int i = 0; i < 7; i++) {
            s.append("man m").append((char) ('a' + i)).append(" a ").append((char) ('a' + i % 6)).append(" 900;");
        }
        for (int i = 0; i < 7; i++) {
            s.append("wishes m").append((char) ('a' + i)).append("=if hour<last*2 then (who+last)*3 else home+hour*who;");
        }
        return s + "toll w=1+last;goes=waited-last;fancy=last*who-hour;pilgrims 30;dawn 3;seed 77;";
    }

    private static long allocated() {
        return ((com.sun.management.ThreadMXBean) ManagementFactory.getThreadMXBean())
                .getThreadAllocatedBytes(Thread.currentThread().getId());
    }

    /** A run has some 600,000 objects and 7.3 million elements for up to 512 calls of each of its objects. */
    private static void roomOfCalls() {
        String town = largestTown();
        allocated();
        long before = allocated();
        WishBridges x = new WishBridges();
        long made = allocated() - before;
        CHECK.due("an object of " + made + " bytes is small", made < 60000, true);
        Check.read(x, town);
        dearCalls(x);
        before = allocated();
        for (int i = 0; i < 30; i++) {
            dearCalls(x);
        }
        // Asking makes some hundred bytes itself.
        long grown = allocated() - before;
        CHECK.due("over a thousand calls made " + grown + " bytes", grown < 4000, true);
    }

    private static int dearCalls(WishBridges x) {
        int sum = x.wishers(0, 127) + x.wisherAt(0, 127, 6) + x.orders(0, 127) + x.orderAt(1, 126, 1);
        sum += x.rests(0, 127, 3) + x.best(0, 127, true) + x.worth(0, 127, 5) + x.gain(0, 127, 5, 1);
        sum += x.rings(0, 127, 2) + x.prices(1, 127, 3, 1) + x.prices(1, 126, 3, 1);
        sum += x.odds(3, 300, 20) + x.where(3, 300) + x.last(1, 300) + x.coins(300) + x.homeBy(2) + x.allHome();
        sum += x.waiting(3, 0) + x.follow(2, 0) + x.way(3, 4, 0) + x.reach(3, 99) + x.rule(1) + x.hours(1);
        sum += x.cross(1, 1) + x.pair(2, 3, 1) + x.walk(4, 1) + (x.hire(0, 2) ? 1 : 0) + (x.undo() ? 1 : 0);
        sum += x.see(1, 2) + x.fits(1) + x.sure(1, 1) + x.trust(1) + x.forget() + (x.hold(1) ? 1 : 0);
        sum += (x.restore(1) ? 1 : 0) + x.count(4) + x.feed(1, 2, 3, 4, 5) + x.back(20);
        return sum;
    }
}
