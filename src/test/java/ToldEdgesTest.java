import java.util.ArrayList;
import java.util.List;

/** Promises 40 to 46, sentence by sentence: what is told. */
public final class ToldEdgesTest {
    private static final int BAD = Edge.BAD, NONE = Edge.NONE;

    public static void main(String[] args) {
        Edge.runAll(ToldEdgesTest.class, 40, 46);
    }

    private static void is(String what, long got, long want) {
        Edge.is(what, got, want);
    }

    // ---- 40 asked

    static void promise40NoughtBefore() {
        ChainedMen x = new ChainedMen();
        is("new", x.asked(), 0);
        x.at(0, 0);
        x.man(0, 0);
        x.reach();
        x.row(0, 3);
        x.text(0, 3);
        x.put(0, 0, 99);
        is("by what is refused, or tells nothing", x.asked(), 0);
    }

    private static void told(String call, int want, Edge.Call done) {
        ChainedMen x = Edge.made(Edge::busy);
        done.on(x);
        is(call, x.asked(), want);
        Edge.busy(x);
        is(call + ", then at()", x.asked(), -7);
    }

    static void promise40EachThatTells() {
        told("lay()", 4, x -> x.lay(0, 0, 3));
        told("at()", 10, x -> x.at(0, 3));
        told("mean()", 5, x -> x.mean(0));
        told("man()", 8, x -> x.man(0, 1));
        told("chain()", 3, x -> x.chain(0, 1));
        told("near()", 0, x -> near(x, 4, 1, 5, 9));
        told("near(), as it is", NONE, x -> near(x, NONE, NONE, NONE, NONE));
        told("reach()", 5, ChainedMen::reach);
        told("where()", 0, x -> x.where(1));
        told("fetch()", 1, x -> fetch(x, 4));
        told("keys()", 5, x -> keys(x, 5, 2, 8));
        told("free()", 1, x -> free(x, 1, 2));
        told("filed()", 1, x -> filed(x, 0, 1, 5, 4));
        told("filed(), not none", 0, x -> filed(x, 0, 11, 5, 4));
        told("judge()", 6, ToldEdgesTest::judge);
    }

    private static int near(ChainedMen x, int... aim) {
        Due.fill(x, 4, aim);
        return x.near(4);
    }

    private static int fetch(ChainedMen x, int want) {
        Due.fill(x, 4, want);
        return x.fetch(4);
    }

    private static int keys(ChainedMen x, int... sets) {
        Due.fill(x, 4, sets);
        return x.keys(4);
    }

    private static int free(ChainedMen x, int... sets) {
        Due.fill(x, 4, sets);
        return x.free(1, 4);
    }

    private static int filed(ChainedMen x, int... seen) {
        Due.fill(x, 4, seen);
        return x.filed(4);
    }

    private static int judge(ChainedMen x) {
        x.row(4, 0);
        return x.judge(4);
    }

    static void promise40TheOthersTellNothing() {
        ChainedMen x = Edge.made(Edge::busy);
        x.row(4, 2);
        x.copy(0, 0, 4, 0, 1);
        x.tear(4);
        x.text(3, 2);
        x.put(3, 0, 5);
        x.fault(0);
        x.mark(0, 1);
        x.tide(0);
        x.open(0, 1);
        x.step(2, 3);
        x.can(0);
        x.undo(3);
        x.who(0);
        x.keep(1);
        x.on(1);
        x.meet(0, 1);
        x.window(0);
        x.comes(0, 0);
        x.quarrel(0, 1);
        x.peace(0);
        x.easter(4);
        x.lots(2, 2);
        x.upper();
        x.lower();
        x.count(0);
        x.finding();
        x.findings(1);
        x.digest();
        is("asked()", x.asked(), -7);
        x.yard(0);
        is("asked(), a new YARD", x.asked(), -7);
    }

    static void promise40PathAndOrderTellNothing() {
        ChainedMen x = Edge.made(Edge.yardOf("m./..=w"));
        x.row(0, 1);
        x.lay(0, 0, 3);
        is("path()", x.path(0, 1), 2);
        is("asked()", x.asked(), 0);
        is("order()", x.order(0, 1), 1);
        is("asked()", x.asked(), 0);
    }

    static void promise40NoneTellsNothing() {
        ChainedMen x = Edge.made(Edge.yardOf("m#m=w2"));
        Due.fill(x, 0, 0, 0);
        x.lay(0, 0, 0);
        x.lay(0, 0, 0);
        x.row(1, 1);
        x.lay(1, 0, 55);
        x.lay(1, 0, 0);
        is("told by lay()", x.asked(), 55);
        is("near()", x.near(0), NONE);
        is("asked()", x.asked(), 55);
        is("keys()", x.keys(1), NONE);
        is("asked()", x.asked(), 55);
        is("free()", x.free(0, 1), NONE);
        is("asked()", x.asked(), 55);
    }

    // ---- 41, 42 upper, lower

    private static long common(long a, long b) {
        return b == 0 ? a : common(b, a % b);
    }

    private static void part(String what, Edge.Scene scene) {
        ChainedMen x = Edge.made(scene);
        long can = 0;
        for (int i = 0; i < x.count(0); i++) {
            can += Integer.bitCount(x.can(i));
        }
        long all = 4L * x.count(0);
        long by = common(all, can);
        Edge.aside(what + ", upper()", scene, can / by, ChainedMen::upper);
        Edge.aside(what + ", lower()", scene, all / by, ChainedMen::lower);
    }

    static void promise41NoughtWithoutMen() {
        Edge.aside("new", Edge::empty, 0, ChainedMen::upper);
        Edge.aside("nobody", Edge::nobody, 0, ChainedMen::upper);
    }

    static void promise41NoughtIfNoneCan() {
        for (String signs : new String[] {"m=w", "a..=w", "mm=w1", "mmmm=w111"}) {
            Edge.aside(signs, Edge.yardOf(signs), 0, ChainedMen::upper);
        }
    }

    static void promise41AllCanBeOneOfOne() {
        Edge.aside("upper()", Edge.yardOf(".../.m./...=w"), 1, ChainedMen::upper);
    }

    static void promise41InLowestTerms() {
        String[] yards = {"m.=w", ".m.=w", ".../.m.=w", "m.m=w9", "m.m/...=w9", ".m./m.m/.m.=w999", "m.m/.m.=w99", "m../.mm=w99",
            "mm../..mm/....=w999", "m.m./.m.m/....=w999", "mmmm/..../....=w999"};
        for (String signs : yards) {
            part(signs, Edge.yardOf(signs));
        }
        part("busy", Edge::busy);
        Edge.aside("6 of 12", Edge.yardOf("m.m/...=w9"), 1, ChainedMen::upper);
        Edge.aside("3 of 4", Edge.yardOf(".../.m.=w"), 3, ChainedMen::upper);
        Edge.aside("7 of 12", Edge.yardOf("m.m/.m.=w99"), 7, ChainedMen::upper);
    }

    static void promise42OneWithoutMen() {
        Edge.aside("new", Edge::empty, 1, ChainedMen::lower);
        Edge.aside("nobody", Edge::nobody, 1, ChainedMen::lower);
    }

    static void promise42OneIfNoneCan() {
        for (String signs : new String[] {"m=w", "a..=w", "mm=w1", "mmmm=w111"}) {
            Edge.aside(signs, Edge.yardOf(signs), 1, ChainedMen::lower);
        }
    }

    static void promise42InLowestTerms() {
        Edge.aside("1 of 4", Edge.yardOf("m.=w"), 4, ChainedMen::lower);
        Edge.aside("2 of 4", Edge.yardOf(".m.=w"), 2, ChainedMen::lower);
        Edge.aside("3 of 4", Edge.yardOf(".../.m.=w"), 4, ChainedMen::lower);
        Edge.aside("4 of 4", Edge.yardOf(".../.m./...=w"), 1, ChainedMen::lower);
        Edge.aside("7 of 12", Edge.yardOf("m.m/.m.=w99"), 12, ChainedMen::lower);
        Edge.aside("4 of 16", Edge.yardOf("mmmm/....=w999"), 4, ChainedMen::lower);
    }

    // ---- 43 count

    static void promise43EachOfTen() {
        int[] counts = {4, 12, 5, 4, 1, 1, 3, 2, 2, 2};
        for (int what = 0; what < 10; what++) {
            int asks = what;
            Edge.aside("count(" + what + ")", Edge::busy, counts[what], x -> x.count(asks));
        }
    }

    static void promise43BadWhat() {
        Edge.bad("count(what)", ChainedMen::count, -1, 10, Edge.LEAST, Edge.GREATEST);
        Edge.refused("count(10), new", Edge::empty, BAD, x -> x.count(10));
    }

    static void promise43TheMostOfEach() {
        ChainedMen x = Edge.made(Edge.yardOf("aada/..../....=r9999"));
        for (int r = 0; r < 6; r++) {
            x.row(r, 0);
        }
        for (int t = 1; t < 4; t++) {
            x.text(t, 0);
        }
        for (int k = 0; k < 4; k++) {
            x.open(k, 1);
        }
        for (int n = 0; n < 9; n++) {
            x.quarrel(0, 1);
        }
        for (int k = 0; k < 3; k++) {
            x.keep(k);
        }
        int[] counts = {4, 12, 0, 4, 4, 4, 6, 4, 8, 3};
        for (int what = 0; what < 10; what++) {
            is("count(" + what + ")", x.count(what), counts[what]);
        }
    }

    static void promise43AsleepOnesDeadOnesToo() {
        String[] yards = {"m=w", "a=w", "d=w", "adm=w11", "tlsm=w999"};
        int[] due = {0, 1, 1, 2, 0};
        for (int n = 0; n < yards.length; n++) {
            is("count(5) of " + yards[n], Edge.made(Edge.yardOf(yards[n])).count(5), due[n]);
        }
    }

    // ---- 44 finding

    static void promise44NoughtBeforeAny() {
        ChainedMen x = new ChainedMen();
        is("new", x.finding(), 0);
        x.row(6, 1);
        x.reach();
        x.undo(1);
        x.row(0, 1);
        is("by BAD, STATE none", x.finding(), 0);
    }

    static void promise44TheLatest() {
        ChainedMen x = Edge.made(Edge.yardOf("m.=w"));
        x.row(1, 0);
        x.at(0, 0);
        is("NOTHING", x.finding(), 1);
        x.at(1, 0);
        is("BEYOND", x.finding(), 2);
        x.mark(0, 1);
        is("UNLIKE", x.finding(), 3);
        x.mean(1);
        is("NOUGHT", x.finding(), 4);
        x.near(1);
        is("SIZE", x.finding(), 5);
        x.on(0);
        is("NOTHING again", x.finding(), 1);
    }

    static void promise44NotByWhatIsNoFinding() {
        ChainedMen x = Edge.made(Edge.yardOf("m#.=w"));
        x.row(1, -1);
        x.row(6, 0);
        x.step(0, 0);
        Due.fill(x, 0, 2);
        is("near()", x.near(0), NONE);
        is("who()", x.who(1), NONE);
        x.yard(0);
        is("SIZE still", x.finding(), 5);
    }

    // ---- 45 findings

    static void promise45HowOftenEach() {
        for (int f = 1; f <= 5; f++) {
            int which = f;
            Edge.aside("findings(" + f + "), busy", Edge::busy, 1, x -> x.findings(which));
            Edge.aside("findings(" + f + "), new", Edge::empty, 0, x -> x.findings(which));
            ChainedMen x = new ChainedMen();
            x.row(0, 0);
            Edge.yard(x, "m=w");
            for (int n = 0; n < 7; n++) {
                is("found", f == 1 ? x.at(1, 0) : f == 2 ? x.at(0, 0) : f == 3 ? x.mark(0, 1) : f == 4 ? x.mean(0) : x.row(0, -1),
                    Edge.FINDING);
            }
            for (int g = 1; g <= 5; g++) {
                is("findings(" + g + ")", x.findings(g), g == f ? 7 : 0);
            }
        }
    }

    static void promise45BadFinding() {
        Edge.bad("findings(f)", ChainedMen::findings, 0, 6, -1, -3, Edge.LEAST, Edge.GREATEST);
    }

    static void promise45NotByWhatIsNoFinding() {
        ChainedMen x = Edge.made(Edge.yardOf("m#=w"));
        x.row(6, -1);
        x.row(0, 41);
        x.step(0, 0);
        x.who(1);
        x.yard(0);
        for (int f = 1; f <= 5; f++) {
            is("findings(" + f + ")", x.findings(f), 0);
        }
    }

    // ---- 46 digest

    private static long mixed(List<Integer> values) {
        long h = 17;
        for (int v : values) {
            h = 31 * h + v;
        }
        return h;
    }

    private static void add(List<Integer> all, int... values) {
        for (int v : values) {
            all.add(v);
        }
    }

    static void promise46OfANewObject() {
        List<Integer> all = new ArrayList<>();
        add(all, 0, 0, 0, 0, 0, 0, 0, 0, 0, 0);
        add(all, 0);
        add(all, -1, -1, -1);
        add(all, -1, -1, -1, -1, -1, -1);
        add(all, -1, -1, -1, -1);
        Edge.aside("digest()", Edge::empty, mixed(all), ChainedMen::digest);
    }

    static void promise46OfABusyYard() {
        List<Integer> all = new ArrayList<>();
        add(all, 4, 12, 5, 4, 1, 1, 3, 2, 2, 2);
        add(all, 1);
        add(all, 0, 0, 0, 0, 0, 0, 1, 0, 0, 0, 0, 0);
        add(all, 1, 8, 2, 2, 2, 1, 1, 0, 0, 5, 1, 2, 3, 9, 2, 1);
        add(all, 2, 3, 3, 0, 4, 4, 1, 1, 4, 4, 1, 0, 3, 4, 1, 0);
        add(all, 0, 1, 3, 2);
        add(all, 2, 2, 33, 23, 21);
        add(all, 2, -1, 4);
        add(all, 4, 4, 1, 5, 10, 0, -1, 40);
        for (int n = 0; n < 39; n++) {
            add(all, 0);
        }
        add(all, -7, -1, -1);
        add(all, 20);
        for (char sign : "ta../.m#./..l.=r2443".toCharArray()) {
            add(all, sign);
        }
        add(all, -1, 3, 32, -56, 32, -1);
        Edge.aside("digest()", Edge::busy, mixed(all), ChainedMen::digest);
    }

    static void promise46OfAllThatThereCanBe() {
        ChainedMen x = Edge.made(Edge.yardOf("m.=w"));
        List<Integer> all = new ArrayList<>();
        add(all, 1, 2, 60, 0, 0, 0, 6, 4, 0, 3, 3, 0, 0, 0, 0, 0, 60);
        for (int n = 0; n < 60; n++) {
            if (n % 25 == 0) {
                x.keep(n / 25);
            }
            x.step(0, n % 2 == 0 ? 1 : 3);
            add(all, n % 2 == 0 ? 1 : 3);
        }
        x.tide(3);
        add(all, 0, 25, 50);
        for (int r = 0; r < 6; r++) {
            x.row(r, 40);
            add(all, 40);
            for (int i = 0; i < 40; i++) {
                int v = i % 2 == 0 ? Edge.LEAST + r : Edge.GREATEST - r;
                if (r < 3) {
                    x.lay(r, i, v);
                }
                add(all, r < 3 ? v : 0);
            }
        }
        for (int t = 0; t < 4; t++) {
            x.text(t, 40);
            add(all, 40);
            for (int i = 0; i < 40; i++) {
                if (t == 3) {
                    x.put(t, i, -128 + i * 6);
                }
                add(all, t == 3 ? -128 + i * 6 : 32);
            }
        }
        is("digest()", x.digest(), mixed(all));
    }

    static void promise46LeavesAsked() {
        ChainedMen x = Edge.made(Edge::busy);
        x.digest();
        is("asked()", x.asked(), -7);
    }
}
