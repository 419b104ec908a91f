/** Promises 40 to 46: what is told. */
public final class ToldTest {
    private static final Due due = new Due("ToldTest");

    public static void main(String[] args) {
        asked();
        parts();
        counts();
        findings();
        digests();
        constants();
        due.end();
    }

    private static void asked() {
        ChainedMen x = Due.yard("m.m./....=w2");
        due.is("none yet", x.asked(), 0);
        due.is("step() tells nothing there", x.step(0, 1), 1);
        due.is("still none", x.asked(), 0);
        x.row(0, 2);
        x.lay(0, 0, 55);
        x.lay(0, 0, 44);
        due.is("lay()", x.asked(), 55);
        x.at(0, 0);
        due.is("at()", x.asked(), 44);
        x.mean(0);
        due.is("mean()", x.asked(), 22);
        x.man(1, 1);
        due.is("man()", x.asked(), 2);
        x.chain(0, 2);
        due.is("chain()", x.asked(), 1);
        Due.fill(x, 0, 1, 2);
        x.near(0);
        due.is("near(), as it is", x.asked(), -9);
        x.reach();
        due.is("reach()", x.asked() > 0 ? 1 : 0, 1);
        x.where(0);
        due.is("where()", x.asked(), 3);
        Due.fill(x, 0, 0, 103);
        x.fetch(0);
        due.is("fetch()", x.asked(), 3);
        Due.fill(x, 0, 1);
        x.keys(0);
        due.is("keys()", x.asked(), 1);
        Due.fill(x, 0, 0, 1);
        x.free(0, 0);
        due.is("free()", x.asked(), 2);
        Due.fill(x, 0, 0, 7);
        x.filed(0);
        due.is("filed()", x.asked(), 0);
        Due.fill(x, 0, 11);
        x.judge(0);
        due.is("judge()", x.asked(), 2);
        x.at(0, 9);
        x.man(9, 0);
        x.reach();
        x.judge(0);
        x.near(5);
        x.keys(9);
        due.is("what is refused tells nothing", x.asked(), 2);
        x.tide(1);
        x.open(0, 1);
        x.can(0);
        x.undo(0);
        x.who(0);
        x.keep(0);
        x.on(0);
        x.meet(0, 1);
        x.window(0);
        x.comes(0, 0);
        x.mark(0, 1);
        x.easter(1);
        x.lots(1, 1);
        x.upper();
        x.count(0);
        x.digest();
        x.fault(0);
        x.tear(1);
        due.is("these tell nothing there", x.asked(), 2);
        x.yard(0);
        due.is("a new yard leaves it", x.asked(), 2);
    }

    private static void part(ChainedMen x, int upper, int lower) {
        due.is("upper()", x.upper(), upper);
        due.is("lower()", x.lower(), lower);
    }

    private static void parts() {
        part(new ChainedMen(), 0, 1);
        part(Due.yard("..=w"), 0, 1);
        part(Due.yard("m=w"), 0, 1);
        part(Due.yard("mmm=w11"), 0, 1);
        part(Due.yard(".../.m./...=w"), 1, 1);
        part(Due.yard("m./..=w"), 1, 2);
        part(Due.yard("../m.=w"), 1, 2);
        part(Due.yard("m..=w"), 1, 4);
        part(Due.yard("m.m/...=w9"), 1, 2);
        part(Due.yard("m.m=w2"), 1, 4);
        part(Due.yard(".../.m./...=w"), 1, 1);
        part(Due.yard("m.m/.m.=w99"), 7, 12);
        ChainedMen x = Due.yard("m./..=w");
        x.tide(1);
        part(x, 1, 4);
    }

    private static void counts() {
        ChainedMen x = Due.yard("ta./d.#/..m=r9999");
        x.text(3, 1);
        x.row(1, 0);
        x.row(2, 1);
        x.row(3, 1);
        x.tear(3);
        x.step(3, 3);
        x.step(3, 3);
        x.open(1, 1);
        x.quarrel(0, 1);
        x.quarrel(0, 1);
        x.quarrel(0, 3);
        x.keep(1);
        int[] counts = {4, 9, 2, 4, 1, 2, 2, 2, 3, 1};
        for (int what = 0; what < counts.length; what++) {
            due.is("count(" + what + ")", x.count(what), counts[what]);
        }
        due.is("count(10)", x.count(10), -1);
        due.is("count(-1)", x.count(-1), -1);
    }

    private static void findings() {
        ChainedMen x = new ChainedMen();
        x.at(0, 0);
        x.tear(0);
        x.row(0, -1);
        due.is("the latest", x.finding(), 5);
        due.is("NOTHING", x.findings(1), 2);
        due.is("SIZE", x.findings(5), 1);
        x.row(0, 0);
        x.mean(0);
        due.is("NOUGHT", x.findings(4), 1);
        x.at(0, 0);
        due.is("BEYOND", x.findings(2), 1);
        Due.write(x, 0, "m=w");
        x.yard(0);
        x.mark(0, 1);
        due.is("UNLIKE", x.findings(3), 1);
        due.is("the latest, then", x.finding(), 3);
        x.at(9, 9);
        x.step(0, 0);
        due.is("by BAD, STATE none", x.finding(), 3);
        due.is("findings(0)", x.findings(0), -1);
        due.is("findings(6)", x.findings(6), -1);
        due.is("findings(-3)", x.findings(-3), -1);
        due.is("a new yard leaves them", x.findings(1), 2);
    }

    private static long mixed(long... values) {
        long h = 17;
        for (long v : values) {
            h = 31 * h + v;
        }
        return h;
    }

    private static void digests() {
        due.is("a new object's", new ChainedMen().digest(),
            mixed(0, 0, 0, 0, 0, 0, 0, 0, 0, 0, 0, -1, -1, -1, -1, -1, -1, -1, -1, -1, -1, -1, -1, -1));
        ChainedMen x = Due.yard("m#/.t=w3");
        x.row(1, 2);
        x.lay(1, 1, -5);
        x.text(3, 2);
        x.put(3, 1, 255);
        x.step(0, 2);
        x.keep(1);
        x.step(0, 0);
        x.open(0, 1);
        x.quarrel(1, 0);
        x.quarrel(0, 1);
        x.tide(1);
        long want = mixed(2, 4, 2, 1, 1, 0, 1, 2, 2, 1,
            1,
            0, 1, 0, 0,
            0, 0, 0, 2, 1, 3, 0, 0,
            3, 4, 2, 1,
            1, 0, 0, 1,
            2, 0,
            -1, 1, -1,
            -1, 2, 0, -5, -1, -1, -1, -1,
            8, 'm', '#', '/', '.', 't', '=', 'w', '3', -1, -1, 2, 32, -1);
        due.is("all of it", x.digest(), want);
        due.is("it changes nothing", x.digest(), want);
    }

    private static void constants() {
        due.is("BAD", ChainedMen.BAD, -1);
        due.is("FULL", ChainedMen.FULL, -2);
        due.is("FINDING", ChainedMen.FINDING, -3);
        due.is("STATE", ChainedMen.STATE, -4);
        due.is("SPENT", ChainedMen.SPENT, -6);
        due.is("NONE", ChainedMen.NONE, -9);
    }
}
