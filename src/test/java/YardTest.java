/** Promises 10 to 16: FAULTS, YARDS, MEN, CHAINS, KINDS, the TIDE, OPEN CHAINS. */
public final class YardTest {
    private static final Due due = new Due("YardTest");

    public static void main(String[] args) {
        faults();
        faultsRefused();
        yards();
        men();
        chains();
        marks();
        tides();
        opens();
        due.end();
    }

    private static void fault(String signs, int want) {
        ChainedMen x = new ChainedMen();
        Due.write(x, 1, signs);
        due.is("fault of '" + signs + "'", x.fault(1), want);
        due.is("yard of '" + signs + "'", x.yard(1) >= 0 ? -9 : x.yard(1), want == -9 ? -9 : -4);
    }

    private static void faults() {
        fault("m=w", -9);
        fault("m=r", -9);
        fault("  ....=w   ", -9);
        fault("#/#/#=r", -9);
        fault("mt/al=r2222", -9);
        fault("ds=w1", -9);
        fault("", 0);
        fault("   ", 3);
        fault("x", 0);
        fault("  x", 2);
        fault("\u00e9=w", 0);
        fault("M=w", 0);
        fault(". .=w", 1);
        fault(".w", 1);
        fault("r", 0);
        fault("....r", 4);
        fault("../..w", 5);
        fault("mm../mmmw1", 7);
        fault(".....=w", 4);
        fault("../...=w", 5);
        fault("../.=w", 4);
        fault("../.", 4);
        fault("../", 3);
        fault("../=w", 3);
        fault("..//..=w", 3);
        fault("/..=w", 0);
        fault("=w", 0);
        fault("././.=w", -9);
        fault("./././.=w", 5);
        fault("././.", 5);
        fault("mmmm/m...=w999", 5);
        fault("mmm./m..m=w999", 8);
        fault(".", 1);
        fault(".=", 2);
        fault(".=x", 2);
        fault(".= ", 2);
        fault(".==", 2);
        fault(".=W", 2);
        fault(".=w1", 3);
        fault(".=w  1", 5);
        fault("mm=w", 4);
        fault("mm=w ", 4);
        fault("mm=w0", 4);
        fault("mm=wx", 4);
        fault("mm=w1", -9);
        fault("mm=w11", 5);
        fault("mm=w1 1", 6);
        fault("mm=r1", -9);
        fault("mm=r11", 5);
        fault("mmm=w11", -9);
        fault("mmm=w111", 7);
        fault("mmm=r11", 7);
        fault("mmm=r111", 7);
        fault("mmm=r112", -9);
        fault("m..m=w2", 6);
        fault("m..m=w3", -9);
        fault("m../..m=w3", -9);
        fault("m../..m=w2", 9);
        fault("m..#/...m=w3", 11);
        fault("m.../...m=w4", -9);
        fault("t..m=w2", -9);
        fault("t..t=w1", -9);
        fault("s..m=w3", 6);
        fault("s..m=w4", -9);
        fault("s..s=w4", 6);
        fault("t..s=w3", -9);
        fault("ss=w1", -9);
        fault("m.m=w1", 5);
    }

    private static void faultsRefused() {
        ChainedMen x = new ChainedMen();
        due.is("fault(4)", x.fault(4), -1);
        due.is("fault(-1)", x.fault(-1), -1);
        due.finds("fault(0)", x, x.fault(0), 1);
        due.is("yard(4)", x.yard(4), -1);
        due.finds("yard(0)", x, x.yard(0), 1);
        x.text(0, 40);
        due.is("yard of blanks", x.yard(0), -4);
        due.is("STATE is no FINDING", x.findings(1), 2);
    }

    private static void yards() {
        ChainedMen x = Due.yard("m.m./....=w4");
        x.tide(1);
        x.step(0, 1);
        x.quarrel(0, 1);
        x.open(0, 1);
        x.keep(2);
        Due.write(x, 1, "m.");
        long before = x.digest();
        due.is("a TEXT with a FAULT", x.fault(1), 2);
        due.is("fault() changes nothing", x.digest(), before);
        due.is("yard() of it", x.yard(1), -4);
        due.is("a refused yard() changes nothing", x.digest(), before);
        due.is("the men can still step", x.step(0, 3), 0);
        Due.write(x, 1, "..m=r");
        due.is("yard anew", x.yard(1), 1);
        int[] counts = {1, 3, 0, 0, 0, 0, 0, 2, 0, 0};
        for (int what = 0; what < counts.length; what++) {
            due.is("then count(" + what + ")", x.count(what), counts[what]);
        }
        due.is("TIDE 0", x.tide(0), 0);
        due.finds("no kept YARDS", x, x.on(2), 1);
        due.is("where he is", x.who(2), 0);
        Due.write(x, 1, "..=w");
        due.is("a yard of nobody", x.yard(1), 0);
        due.is("its cells", x.count(1), 2);
        x.text(1, 0);
        due.is("the yard stays without its text", x.count(1), 2);
        ChainedMen wall = Due.yard("m#=w");
        due.is("a wall", wall.can(0), 0);
        Due.write(wall, 0, "m.=w");
        wall.yard(0);
        due.is("no wall is left of the yard before", wall.can(0), 2);
        ChainedMen four = Due.yard("tsam=r9999");
        Due.write(four, 2, "mm=w1");
        four.yard(2);
        due.tells("no kind is left", four, four.man(0, 0), 0);
        due.tells("no chain is left", four, four.man(0, 2), 1);
        due.tells("no reach is left", four, four.chain(0, 1), 1);
    }

    private static void men() {
        ChainedMen x = Due.yard("ta./l.d=w333");
        int[][] told = {{1, 0, 1, 0}, {2, 1, 2, 0}, {3, 3, 2, 0}, {4, 5, 1, 0}};
        for (int i = 0; i < 4; i++) {
            for (int what = 0; what < 4; what++) {
                due.tells("man(" + i + ", " + what + ")", x, x.man(i, what), told[i][what]);
            }
        }
        x.open(1, 1);
        due.tells("one chain is open", x, x.man(1, 2), 1);
        due.tells("one chain is open to him, too", x, x.man(2, 2), 1);
        due.is("a lame step", x.step(2, 1), 4);
        due.tells("he stepped", x, x.man(2, 3), 1);
        due.tells("he is there", x, x.man(2, 1), 4);
        x.undo(0);
        due.tells("undone", x, x.man(2, 3), 0);
        due.is("man(4, 0)", x.man(4, 0), -1);
        due.is("man(-1, 0)", x.man(-1, 0), -1);
        due.is("man(0, 4)", x.man(0, 4), -1);
        due.is("man(0, -1)", x.man(0, -1), -1);
        ChainedMen y = Due.yard("ms=w2");
        due.tells("a man", y, y.man(0, 0), 0);
        due.tells("a short one", y, y.man(1, 0), 5);
        ChainedMen ring = Due.yard("mm/mm=r2222");
        for (int i = 0; i < 4; i++) {
            due.tells("chains in a ring", ring, ring.man(i, 2), 2);
        }
    }

    private static void chains() {
        ChainedMen x = Due.yard("t.s/m.#/..a=r3933");
        int[][] told = {{3, 3, 2, 0}, {9, 8, 3, 0}, {3, 3, 3, 0}, {3, 4, 4, 0}};
        for (int k = 0; k < 4; k++) {
            for (int what = 0; what < 4; what++) {
                due.tells("chain(" + k + ", " + what + ")", x, x.chain(k, what), told[k][what]);
            }
        }
        due.is("how many", x.count(3), 4);
        x.open(2, 1);
        due.tells("an open one", x, x.chain(2, 3), 1);
        due.tells("an open one reaches as far", x, x.chain(2, 1), 3);
        due.is("chain(4, 0)", x.chain(4, 0), -1);
        due.is("chain(-1, 0)", x.chain(-1, 0), -1);
        due.is("chain(0, 4)", x.chain(0, 4), -1);
        due.is("chain(0, -1)", x.chain(0, -1), -1);
        ChainedMen y = Due.yard("ss=w1");
        due.tells("1 at least", y, y.chain(0, 1), 1);
        ChainedMen z = Due.yard("tt=r9");
        due.tells("two strong ones", z, z.chain(0, 1), 11);
        due.is("a ring of two has one chain", z.count(3), 1);
        due.is("a ring of one has none", Due.yard("t=r").count(3), 0);
        due.is("a row of four has three", Due.yard("mmmm=w111").count(3), 3);
    }

    private static void marks() {
        ChainedMen x = Due.yard("t..a/d..a=r9999");
        due.is("a strong one's sleepers", x.mark(0, 1), 2);
        due.is("a sleeper's strong ones", x.mark(1, 2), 1);
        due.is("a dead one's strong ones", x.mark(2, 2), 0);
        due.is("a dead one's far ones", x.mark(2, 4), 2);
        x.open(3, 1);
        due.is("a strong one's sleepers, one open", x.mark(0, 1), 1);
        due.is("a sleeper's strong ones, open", x.mark(3, 2), 0);
        due.finds("a sleeper is not strong", x, x.mark(1, 1), 3);
        due.finds("a sleeper is not dead", x, x.mark(1, 4), 3);
        due.finds("a dead one is not lame", x, x.mark(2, 3), 3);
        due.finds("a strong one is not asleep", x, x.mark(0, 2), 3);
        due.is("mark(0, 0)", x.mark(0, 0), -1);
        due.is("mark(0, 6)", x.mark(0, 6), -1);
        due.is("mark(4, 1)", x.mark(4, 1), -1);
        due.is("mark(-1, 1)", x.mark(-1, 1), -1);
        ChainedMen y = Due.yard("l.s./....=w3");
        due.is("a lame one's ways", y.mark(0, 3), 1);
        due.is("a short one's ways", y.mark(1, 3), 1);
        due.is("a short one's least reach", y.mark(1, 5), 2);
        y.open(0, 1);
        due.is("an open one reaches, too", y.mark(1, 5), 2);
        due.is("a short one's ways, open", y.mark(1, 3), 2);
        due.finds("a lame one is not short", y, y.mark(0, 5), 3);
        ChainedMen z = Due.yard("s=w");
        due.is("a short one without chains", z.mark(0, 5), -9);
        due.is("without ways", z.mark(0, 3), 0);
        ChainedMen d = Due.yard("td=w9");
        due.is("a dead one does not count as asleep", d.mark(0, 1), 0);
        due.is("a dead one's strong one", d.mark(1, 2), 1);
        ChainedMen two = Due.yard("dm.m=w19");
        due.is("3 is farther than 2", two.mark(0, 4), 1);
        two = Due.yard("dmm=w11");
        due.is("2 is not farther than 2", two.mark(0, 4), 0);
        ChainedMen s = Due.yard("msm=w29");
        due.is("the least of two", s.mark(1, 5), 1);
    }

    private static void tides() {
        ChainedMen x = new ChainedMen();
        due.is("no cells", x.tide(0), -4);
        due.is("no cells, BAD first", x.tide(4), -1);
        x = Due.yard("m./..=w");
        due.is("tide(-1)", x.tide(-1), -1);
        due.is("tide(3)", x.tide(3), 0);
        due.is("more than there are lines", x.can(0), 0);
        due.is("tide(1)", x.tide(1), 3);
        due.is("the last line is under", x.can(0), 2);
        due.is("tide(0)", x.tide(0), 1);
        due.is("none is", x.can(0), 6);
        due.is("tide(4)", x.tide(4), -1);
        ChainedMen y = Due.yard("../m.=w");
        y.tide(1);
        due.is("who stands in the water stays", y.who(2), 0);
        due.is("he can come up alone", y.can(0), 1);
        due.is("a tide without men", Due.yard("..=w").tide(2), 0);
    }

    private static void opens() {
        ChainedMen x = Due.yard("m.m.=w2");
        due.is("not open, again", x.open(0, 0), 0);
        due.is("open", x.open(0, 1), 0);
        due.is("open, again", x.open(0, 1), 1);
        due.is("farther than it reaches", x.step(1, 1), 3);
        due.is("would not be kept", x.open(0, 0), -4);
        due.tells("so it is open", x, x.chain(0, 3), 1);
        due.is("back", x.step(1, 3), 2);
        due.is("kept now", x.open(0, 0), 1);
        due.is("open(1, 0)", x.open(1, 0), -1);
        due.is("open(-1, 0)", x.open(-1, 0), -1);
        due.is("open(0, 2)", x.open(0, 2), -1);
        due.is("open(0, -1)", x.open(0, -1), -1);
        due.is("undo to where it is not kept", x.undo(1), 1);
        due.tells("too far now", x, x.chain(0, 2), 3);
        due.is("it would not be kept, though it is not open", x.open(0, 0), -4);
        due.is("steps that make it kept", x.can(1), 8);
        due.is("of the other one, too", x.can(0), 2);
    }
}
