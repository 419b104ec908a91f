import java.lang.reflect.Method;
import java.lang.reflect.Modifier;
import java.util.ArrayList;
import java.util.Arrays;
import java.util.Comparator;
import java.util.List;
import java.util.Random;

/**
 * Runs of calls by chance on ChainedMen and on PlainMen: each answer, what asked(), finding()
 * and digest() tell behind it are alike. A number as argument gives another seed.
 */
public final class AgainstPlainTest {
    private static final int CALLS = 512;

    private final Random random;
    private final ChainedMen men = new ChainedMen();
    private final PlainMen plain = new PlainMen();
    private final List<String> told = new ArrayList<>();
    private int calls;
    private boolean unlike;

    private AgainstPlainTest(long seed) {
        random = new Random(seed);
    }

    public static void main(String[] args) {
        long seed = args.length > 0 ? Long.parseLong(args[0]) : 1;
        int runs = args.length > 1 ? Integer.parseInt(args[1]) : 150;
        long calls = 0;
        for (int run = 0; run < runs; run++) {
            AgainstPlainTest one = new AgainstPlainTest(1000 * seed + run);
            one.run();
            calls += one.calls;
            if (one.unlike) {
                System.out.println("AgainstPlainTest: run " + run + " of seed " + seed + ":");
                one.told.forEach(System.out::println);
                System.exit(1);
            }
        }
        System.out.println("AgainstPlainTest: " + runs + " runs, " + calls + " calls, all alike");
    }

    private void run() {
        if (random.nextInt(10) > 0) {
            writeYard();
        }
        while (calls < CALLS - 60 && !unlike) {
            doSomething();
        }
    }

    private long call(String name, int... args) {
        if (unlike) {
            return 0;
        }
        calls++;
        Object[] boxed = Arrays.stream(args).boxed().toArray();
        Class<?>[] types = new Class<?>[args.length];
        Arrays.fill(types, int.class);
        long got = answer(men, ChainedMen.class, name, types, boxed);
        long want = answer(plain, PlainMen.class, name, types, boxed);
        told.add(name + Arrays.toString(args) + ": " + got + (got == want ? "" : ", plainly " + want));
        check(name, got, want);
        check("asked()", men.asked(), plain.asked());
        check("finding()", men.finding(), plain.finding());
        check("digest()", men.digest(), plain.digest());
        return got;
    }

    private void check(String what, long got, long want) {
        if (got != want) {
            unlike = true;
            told.add(what + " is " + got + ", plainly " + want);
        }
    }

    private static long answer(Object on, Class<?> of, String name, Class<?>[] types, Object[] args) {
        try {
            Method m = of.getMethod(name, types);
            return ((Number) m.invoke(on, args)).longValue();
        } catch (ReflectiveOperationException e) {
            throw new IllegalStateException(name, e);
        }
    }

    private int any(int many) {
        return random.nextInt(many);
    }

    /** Mostly 0 .. many - 1, now and then a little or far beyond. */
    private int some(int many) {
        int dice = any(40);
        if (dice == 0) {
            return many + any(2);
        }
        if (dice == 1) {
            return -1 - any(10);
        }
        if (dice == 2 && any(4) == 0) {
            return random.nextInt();
        }
        return many > 0 ? any(many) : 0;
    }

    private int menThere() {
        return Math.max(1, plain.count(0));
    }

    private int cellsThere() {
        return Math.max(1, plain.count(1));
    }

    private String yardSigns() {
        int width = 1 + any(4);
        int lines = 1 + any(3);
        char[] signs = new char[width * lines];
        for (int c = 0; c < signs.length; c++) {
            signs[c] = any(9) == 0 ? '#' : '.';
        }
        int men = any(12) == 0 ? 0 : 1 + any(4);
        for (int i = 0; i < men; i++) {
            signs[any(signs.length)] = "mmmttaalds".charAt(any(10));
        }
        StringBuilder all = new StringBuilder();
        for (int c = 0; c < signs.length; c++) {
            all.append(c > 0 && c % width == 0 ? "/" : "").append(signs[c]);
        }
        int there = (int) new String(signs).chars().filter(c -> c != '.' && c != '#').count();
        char form = any(2) == 0 ? 'w' : 'r';
        all.append('=').append(form);
        int chains = there < 2 ? 0 : there == 2 || form == 'w' ? there - 1 : there;
        boolean loose = any(3) == 0;
        for (int k = 0; k < chains; k++) {
            all.append((char) ('1' + (loose ? 4 + any(5) : 1 + any(4))));
        }
        return all.toString();
    }

    private void write(int t, String signs) {
        int ahead = any(4) == 0 ? any(3) : 0;
        int behind = any(4) == 0 ? any(3) : 0;
        call("text", t, ahead + signs.length() + behind);
        for (int i = 0; i < signs.length(); i++) {
            if (signs.charAt(i) != ' ') {
                call("put", t, ahead + i, signs.charAt(i));
            }
        }
    }

    private void writeYard() {
        String signs = yardSigns();
        if (any(6) == 0) {
            char[] spoilt = signs.toCharArray();
            spoilt[any(spoilt.length)] = "mtalds.#/=wr123 0x".charAt(any(18));
            signs = new String(spoilt);
        }
        if (any(12) == 0) {
            signs = signs.substring(0, any(signs.length()));
        }
        int t = any(4);
        write(t, signs);
        call("fault", t);
        call("yard", t);
    }

    private void fill(int r, int n, int kind) {
        call("row", r, n);
        for (int i = 0; i < n; i++) {
            call("lay", r, i, place(kind));
        }
    }

    private int place(int kind) {
        switch (kind) {
            case 0:
                return any(3) == 0 ? -9 : some(cellsThere());
            case 1:
                return some(cellsThere());
            case 2:
                return 100 * some(menThere()) + some(cellsThere());
            case 3:
                return some(1 << plain.count(3));
            case 4:
                return 10 * some(menThere()) + any(4);
            default:
                return random.nextInt();
        }
    }

    /** Now and then one man too many or too few. */
    private int standSize() {
        return any(15) == 0 ? any(6) : plain.count(0);
    }

    private void doSomething() {
        int r = any(6);
        int q = any(6);
        switch (any(34)) {
            case 0:
                if (any(4) == 0) {
                    writeYard();
                }
                break;
            case 1:
                fill(r, any(5), 9);
                call("copy", some(6), some(4), some(6), some(4), some(4));
                call("mean", some(6));
                break;
            case 2:
                call("at", some(6), some(4));
                call("tear", some(6));
                call("copy", r, 0, q, 0, any(3));
                break;
            case 3:
                call("put", some(4), some(20), random.nextInt());
                call("fault", some(4));
                break;
            case 4:
                for (int i = 0; i < menThere(); i++) {
                    call("man", some(menThere()), some(4));
                    call("can", some(menThere()));
                    call("mark", some(menThere()), 1 + any(5));
                }
                break;
            case 5:
                call("chain", some(plain.count(3)), some(4));
                call("open", some(plain.count(3)), some(2));
                break;
            case 6:
                call("tide", any(2) == 0 ? 0 : some(4));
                break;
            case 7:
            case 8:
            case 9:
            case 10:
                for (int n = 0; n < 6; n++) {
                    call("step", some(menThere()), some(4));
                }
                break;
            case 11:
                call("undo", some(plain.count(2) + 1));
                break;
            case 12:
                call("who", some(cellsThere()));
                call("open", some(plain.count(3)), 0);
                break;
            case 13:
                call("keep", some(3));
                break;
            case 14:
                call("on", some(3));
                break;
            case 15:
            case 16:
                fill(r, standSize(), 0);
                call("near", any(20) == 0 ? some(6) : r);
                call("path", r, some(6));
                call("judge", q);
                break;
            case 17:
                call("reach");
                call("where", some(menThere()));
                break;
            case 18:
                call("meet", some(menThere()), some(menThere()));
                call("window", some(4));
                break;
            case 19:
            case 20:
                comes(r, q);
                break;
            case 21:
            case 22:
                fill(r, any(30) == 0 ? 6 : any(5), 2);
                call("fetch", any(20) == 0 ? some(6) : r);
                break;
            case 23:
            case 24:
                fill(r, any(30) == 0 ? 6 : any(8) == 0 ? 5 : any(4), 2);
                call("order", r, some(6));
                break;
            case 25:
                fill(r, any(20) == 0 ? 9 : any(9), 3);
                call("keys", r);
                call("free", some(menThere()), r);
                break;
            case 26:
                fill(r, Math.min(40, any(9) * plain.count(0) + (any(15) == 0 ? 1 : 0)), 1);
                call("filed", r);
                break;
            case 27:
                fill(r, any(7), 4);
                call("judge", r);
                break;
            case 28:
                call("quarrel", some(menThere()), some(menThere()));
                call("quarrel", some(menThere()), some(menThere()));
                call("easter", some(6));
                break;
            case 29:
                call("peace", some(plain.count(8) + 1));
                break;
            case 30:
                call("lots", any(3) == 0 ? some(61) : 1 + any(8), any(9) == 0 ? any(2) : 1 + any(2147483646));
                break;
            case 31:
                call("upper");
                call("lower");
                call("findings", some(6));
                call("count", some(10));
                break;
            case 32:
                strain();
                break;
            default:
                anyCall();
        }
    }

    private void comes(int r, int q) {
        fill(r, standSize(), 1);
        fill(q, standSize(), 1);
        int n = plain.count(0);
        if (any(3) > 0) {
            for (int i = 0; i < n; i++) {
                plain.man(i, 1);
                int cell = plain.asked();
                men.man(i, 1);
                call("lay", r, i, cell);
            }
        }
        call("comes", r, q);
        call("comes", q, r);
    }

    /** Opens a chain, goes apart, comes back, closes it, and undoes: it is not KEPT then. */
    private void strain() {
        int k = some(plain.count(3));
        call("open", k, 1);
        int ahead = plain.count(2);
        if (ahead > 40) {
            call("undo", 0);
            ahead = 0;
        }
        call("lots", 1 + any(9), 1 + any(1000000));
        int apart = plain.count(2);
        call("lots", 1 + any(9), 1 + any(1000000));
        if (call("open", k, 0) < 0) {
            call("undo", ahead);
            call("open", k, 0);
            return;
        }
        call("undo", apart);
        call("reach");
        for (int i = 0; i < menThere(); i++) {
            call("can", i);
            call("where", i);
        }
    }

    private void anyCall() {
        Method[] all = Arrays.stream(ChainedMen.class.getDeclaredMethods())
            .filter(m -> Modifier.isPublic(m.getModifiers()))
            .sorted(Comparator.comparing(Method::getName))
            .toArray(Method[]::new);
        Method m = all[any(all.length)];
        int[] args = new int[m.getParameterCount()];
        for (int n = 0; n < args.length; n++) {
            args[n] = some(6);
        }
        call(m.getName(), args);
    }
}
