import java.lang.management.ManagementFactory;
import java.lang.reflect.InvocationTargetException;
import java.lang.reflect.Method;
import java.lang.reflect.Modifier;
import java.util.Arrays;
import java.util.Comparator;
import java.util.Random;

/** No call throws, whatever it is given; and calls make nothing, so that a run has room. */
public final class NeverThrowsTest {
    private static final Due due = new Due("NeverThrowsTest");
    private static final int[] WILD = {Integer.MIN_VALUE, Integer.MAX_VALUE, -100, -10, -9, -2, -1, 0, 1, 2,
        3, 4, 5, 6, 8, 12, 13, 31, 32, 33, 39, 40, 41, 59, 60, 61, 63, 64, 99, 100, 111, 303, 311, 400};

    public static void main(String[] args) {
        wildCalls();
        nothingIsMade();
        dearestCalls();
        due.end();
    }

    private static Method[] face() {
        return Arrays.stream(ChainedMen.class.getDeclaredMethods())
            .filter(m -> Modifier.isPublic(m.getModifiers()))
            .sorted(Comparator.comparing(Method::getName))
            .toArray(Method[]::new);
    }

    private static void wildCalls() {
        Method[] face = face();
        Random random = new Random(7);
        String[] yards = {null, "..=w", "m.=w", "at../..../....=w2", "mt.a/.#../...s=r9999", "tdas=w111", "mmm/...=r112"};
        for (int run = 0; run < 210; run++) {
            String signs = yards[run % yards.length];
            ChainedMen x = signs == null ? new ChainedMen() : Due.yard(signs);
            for (int n = 0; n < 400; n++) {
                Method m = face[random.nextInt(face.length)];
                Object[] numbers = new Object[m.getParameterCount()];
                for (int p = 0; p < numbers.length; p++) {
                    boolean small = random.nextInt(3) > 0;
                    numbers[p] = small ? random.nextInt(6) : WILD[random.nextInt(WILD.length)];
                }
                due.is(m.getName() + Arrays.toString(numbers) + " throws", thrown(m, x, numbers), 0);
            }
        }
    }

    private static int thrown(Method m, ChainedMen x, Object[] numbers) {
        try {
            m.invoke(x, numbers);
            return 0;
        } catch (InvocationTargetException e) {
            e.getCause().printStackTrace(System.out);
            return 1;
        } catch (IllegalAccessException e) {
            return 1;
        }
    }

    private static long made() {
        com.sun.management.ThreadMXBean bean =
            (com.sun.management.ThreadMXBean) ManagementFactory.getThreadMXBean();
        return bean.getThreadAllocatedBytes(Thread.currentThread().getId());
    }

    private static void allCalls(ChainedMen x) {
        x.row(0, 4);
        x.lay(0, 0, 9);
        x.copy(0, 0, 0, 1, 2);
        x.mean(0);
        x.yard(0);
        x.mark(0, 1);
        x.tide(1);
        x.tide(0);
        x.open(0, 1);
        x.step(0, 2);
        x.can(0);
        x.keep(0);
        x.undo(0);
        x.on(0);
        x.lay(0, 0, 11);
        x.near(0);
        x.path(0, 1);
        x.reach();
        x.where(1);
        x.meet(0, 3);
        x.window(0);
        x.comes(0, 0);
        x.lay(0, 1, 111);
        x.lay(0, 2, 208);
        x.lay(0, 3, 304);
        x.fetch(0);
        x.order(0, 2);
        x.row(3, 4);
        x.keys(3);
        x.free(0, 3);
        x.filed(3);
        x.judge(3);
        x.quarrel(0, 1);
        x.easter(4);
        x.lots(5, 77);
        x.upper();
        x.digest();
    }

    /** A call that made even one array each time would show by megabytes. */
    private static void nothingIsMade() {
        ChainedMen x = Due.yard("mtam/..../....=r9999");
        allCalls(x);
        long before = made();
        for (int n = 0; n < 200; n++) {
            allCalls(x);
        }
        long bytes = made() - before;
        due.is("bytes made by 200 times all calls are few", bytes < 100000 ? 1 : 0, 1);
        before = made();
        ChainedMen[] many = new ChainedMen[10];
        for (int n = 0; n < many.length; n++) {
            many[n] = new ChainedMen();
        }
        bytes = (made() - before) / many.length;
        due.is("bytes of one object are fewer than a million", bytes < 1000000 && many[9] != null ? 1 : 0, 1);
    }

    /** The widest yard, all men loose, five wants, one of which no order can meet. */
    private static void dearestCalls() {
        ChainedMen x = Due.yard("mmmm/..../...#=r9999");
        long began = System.nanoTime();
        for (int n = 0; n < 20; n++) {
            Due.fill(x, 0, 108, 3, 204, 300, n % 2 == 0 ? 11 : 10);
            due.is("wants met", x.order(0, 1), n % 2 == 0 ? 4 : 5);
            x.tide(0);
        }
        long seconds = (System.nanoTime() - began) / 1000000000L;
        due.is("twenty dear orders in a minute", seconds < 60 ? 1 : 0, 1);
    }
}
