import java.lang.reflect.InvocationTargetException;
import java.lang.reflect.Method;
import java.util.ArrayList;
import java.util.Arrays;
import java.util.Comparator;
import java.util.List;

/**
 * For tests of single sentences. Each is a static method named promiseNN.. by its promise.
 *
 * Whether a call changes nothing is seen from outside: two objects are set up alike, the call is
 * made on one of them, and both are asked all that can be asked (also what undo() and on() bring back).
 */
final class Edge {
    static final int LEAST = Integer.MIN_VALUE, GREATEST = Integer.MAX_VALUE;
    static final int BAD = -1, FULL = -2, FINDING = -3, STATE = -4, NONE = -9;
    static final int NOTHING = 1, BEYOND = 2, UNLIKE = 3, NOUGHT = 4, SIZE = 5;
    static final int[] NO_ROW = {-1, 6, LEAST, GREATEST};
    static final int[] NO_TEXT = {-1, 4, LEAST, GREATEST};

    /** What is done ahead of the call. */
    interface Scene {
        void set(ChainedMen x);
    }

    interface Call {
        long on(ChainedMen x);
    }

    interface CallWith {
        long on(ChainedMen x, int v);
    }

    private static String test = "";
    private static int looked;
    private static int wrong;

    private Edge() {
    }

    /** Runs all tests of a class; each promise from first to last must have one. */
    static void runAll(Class<?> tests, int first, int last) {
        Method[] methods = tests.getDeclaredMethods();
        Arrays.sort(methods, Comparator.comparing(Method::getName));
        boolean[] tested = new boolean[100];
        int many = 0;
        for (Method m : methods) {
            if (m.getName().matches("promise\\d\\d[A-Z]\\w*")) {
                tested[Integer.parseInt(m.getName().substring(7, 9))] = true;
                many++;
                runOne(m);
            }
        }
        for (int promise = first; promise <= last; promise++) {
            test = tests.getName();
            is("promise " + promise + " has a test", tested[promise] ? 1 : 0, 1);
        }
        System.out.println(tests.getName() + ": " + many + " tests, " + looked + " answers looked at, " + wrong + " wrong");
        if (wrong != 0) {
            System.exit(1);
        }
    }

    private static void runOne(Method m) {
        test = m.getName();
        try {
            m.setAccessible(true);
            m.invoke(null);
        } catch (InvocationTargetException e) {
            e.getCause().printStackTrace(System.out);
            is("throws", 1, 0);
        } catch (IllegalAccessException e) {
            is("can be called", 0, 1);
        }
    }

    static void is(String what, long got, long want) {
        looked++;
        if (got != want) {
            wrong++;
            System.out.println(test + ": " + what + ": " + got + ", due is " + want);
        }
    }

    // ---- scenes

    static void empty(ChainedMen x) {
    }

    /** CELLS, but no MEN. */
    static void nobody(ChainedMen x) {
        yard(x, ".../.#.=w");
    }

    /** Something of all that there can be: four MEN, STEPS, water, an OPEN CHAIN, kept YARDS .. */
    static void busy(ChainedMen x) {
        yard(x, "ta../.m#./..l.=r2443");
        x.text(2, 3);
        x.put(2, 1, 200);
        Due.fill(x, 0, 4, 1, 5, 10);
        x.row(1, 0);
        x.row(3, 40);
        x.lay(3, 39, -7);
        x.step(0, 2);
        x.step(0, 2);
        x.keep(0);
        x.step(3, 3);
        x.open(1, 1);
        x.step(2, 3);
        x.tide(1);
        x.keep(2);
        x.step(2, 1);
        x.quarrel(0, 1);
        x.quarrel(3, 2);
        x.at(5, 0);
        x.at(1, 0);
        x.row(4, -1);
        x.mean(1);
        x.mark(0, 2);
        x.at(3, 39);
    }

    static Scene yardOf(String signs) {
        return x -> yard(x, signs);
    }

    static void yard(ChainedMen x, String signs) {
        Due.write(x, 0, signs);
        if (x.yard(0) < 0) {
            throw new IllegalStateException("no yard: " + signs);
        }
    }

    static ChainedMen made(Scene scene) {
        ChainedMen x = new ChainedMen();
        scene.set(x);
        return x;
    }

    // ---- what is answered, and what stays

    /** BAD, FULL or STATE: nothing at all changes. */
    static void refused(String call, Scene scene, int answer, Call done) {
        ChainedMen x = made(scene);
        ChainedMen y = made(scene);
        is(call, done.on(x), answer);
        sameFindings(call, x, y, 0);
        is(call + " leaves asked()", x.asked(), y.asked());
        sameAll(call, x, y);
    }

    /** FINDING: finding() and findings() alone change. */
    static void finds(String call, Scene scene, int which, Call done) {
        ChainedMen x = made(scene);
        ChainedMen y = made(scene);
        is(call, done.on(x), FINDING);
        is(call + ", finding()", x.finding(), which);
        sameFindings(call, x, y, which);
        is(call + " leaves asked()", x.asked(), y.asked());
        sameAll(call, x, y);
    }

    /** Answered, and nothing changes. */
    static void aside(String call, Scene scene, long answer, Call done) {
        ChainedMen x = made(scene);
        ChainedMen y = made(scene);
        is(call, done.on(x), answer);
        sameFindings(call, x, y, 0);
        is(call + " leaves asked()", x.asked(), y.asked());
        sameAll(call, x, y);
    }

    /** Answered, told by asked(), and nothing else changes. */
    static void tells(String call, Scene scene, long answer, long told, Call done) {
        ChainedMen x = made(scene);
        ChainedMen y = made(scene);
        is(call, done.on(x), answer);
        is(call + ", asked()", x.asked(), told);
        sameFindings(call, x, y, 0);
        sameAll(call, x, y);
    }

    /** BAD for each of these numbers, in a busy yard. */
    static void bad(String call, CallWith done, int... numbers) {
        for (int v : numbers) {
            refused(call + " with " + v, Edge::busy, BAD, x -> done.on(x, v));
        }
    }

    /** A FINDING for each of these numbers. */
    static void findsFor(String call, Scene scene, int which, CallWith done, int... numbers) {
        for (int v : numbers) {
            finds(call + " with " + v, scene, which, x -> done.on(x, v));
        }
    }

    private static void sameFindings(String call, ChainedMen x, ChainedMen y, int found) {
        if (found == 0) {
            is(call + " leaves finding()", x.finding(), y.finding());
        }
        for (int f = 1; f <= 5; f++) {
            is(call + ", findings(" + f + ")", x.findings(f), y.findings(f) + (f == found ? 1 : 0));
        }
    }

    private static void sameAll(String call, ChainedMen x, ChainedMen y) {
        List<Long> one = allOf(x);
        List<Long> other = allOf(y);
        is(call + " leaves all else: " + one + " " + other, one.equals(other) ? 1 : 0, 1);
    }

    private static List<Long> allOf(ChainedMen x) {
        List<Long> all = new ArrayList<>();
        all.add(x.digest());
        whereTo(x, all);
        for (int n = x.count(2); n >= 0; n = n > 6 ? n / 2 : n - 1) {
            x.undo(n);
            all.add(x.digest());
        }
        whereTo(x, all);
        for (int k = 0; k < 3; k++) {
            all.add((long) x.on(k));
            all.add(x.digest());
            whereTo(x, all);
            x.undo(x.count(2) / 2);
            all.add(x.digest());
            x.undo(0);
            all.add(x.digest());
        }
        return all;
    }

    private static void whereTo(ChainedMen x, List<Long> all) {
        for (int i = 0; i < x.count(0); i++) {
            all.add((long) x.can(i));
            all.add((long) x.where(i));
            all.add((long) x.asked());
        }
    }
}
