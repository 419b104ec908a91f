/** Promises 10 to 16, sentence by sentence: FAULTS, YARDS, MEN, CHAINS, KINDS, TIDE, OPEN CHAINS. */
public final class YardEdgesTest {
    private static final String SIGNS = ".#mtalds", MEN = "mtalds";
    private static final String WHOLE = "t.a./.m#./..l.=r9999";

    public static void main(String[] args) {
        Edge.runAll(YardEdgesTest.class, 10, 16);
    }

    private static void is(String what, long got, long want) {
        Edge.is(what, got, want);
    }

    // ---- 10 fault

    /** The FAULT, by fault(); and yard() takes just what has none. */
    private static void fault(String signs, int want) {
        ChainedMen x = new ChainedMen();
        Due.write(x, 3, signs);
        is("fault of '" + signs + "'", x.fault(3), want);
        int men = signs.replaceAll("[^mtalds]", "").length();
        is("yard of '" + signs + "'", x.yard(3), want == Edge.NONE ? men : Edge.STATE);
    }

    private static boolean isOf(String all, char sign) {
        return all.indexOf(sign) >= 0;
    }

    private static String blanks(int many) {
        return " ".repeat(many);
    }

    static void promise10AFirstSignOfEveryByte() {
        for (char b = 0; b < 256; b++) {
            fault("" + b, isOf(SIGNS + " ", b) ? 1 : 0);
        }
    }

    static void promise10ASecondSignOfEveryByte() {
        for (char b = 0; b < 256; b++) {
            fault("." + b, isOf(SIGNS + "/=", b) ? 2 : 1);
        }
    }

    static void promise10OneMoreThanFourInTheFirstLine() {
        for (char b = 0; b < 256; b++) {
            fault("...." + b, isOf("/=", b) ? 5 : 4);
        }
        fault("....=w", Edge.NONE);
        fault(".....=w", 4);
    }

    static void promise10OneMoreThanTheFirstLineHas() {
        for (char b = 0; b < 256; b++) {
            fault("./." + b, isOf("/=", b) ? 4 : 3);
            fault("../../.." + b, b == '=' ? 9 : 8);
        }
        fault(".../....=w", 7);
        fault("../../...=w", 8);
        fault("..../....=w", Edge.NONE);
    }

    static void promise10AShorterLine() {
        for (char b = 0; b < 256; b++) {
            fault("../." + b, isOf(SIGNS, b) ? 5 : 4);
        }
        fault("../.=w", 4);
        fault("../.", 4);
        fault("..../.../....=w", 8);
        fault("..../..../...=w", 13);
    }

    static void promise10ALineWithoutASign() {
        for (char b = 0; b < 256; b++) {
            fault("./" + b, isOf(SIGNS, b) ? 3 : 2);
            fault("././" + b, isOf(SIGNS, b) ? 5 : 4);
        }
        fault("/.=w", 0);
        fault("=w", 0);
        fault("  /.=w", 2);
        fault("  =w", 2);
        fault(".//.=w", 2);
        fault("./=w", 2);
    }

    static void promise10ASlashBehindTheThirdLine() {
        fault(".=w", Edge.NONE);
        fault("./.=w", Edge.NONE);
        fault("././.=w", Edge.NONE);
        fault("./././.=w", 5);
        fault("./././", 5);
        fault("..../..../..../....=w", 14);
    }

    static void promise10AFifthMan() {
        for (char b = 0; b < 256; b++) {
            fault("mtal/" + b, isOf(".#", b) ? 6 : 5);
            fault("dsm./m" + b, isOf(".#", b) ? 7 : 6);
        }
        fault("ml/st=w999", Edge.NONE);
        fault("m.m/m.m/.m.=w9999", 9);
    }

    static void promise10AFormOfEveryByte() {
        for (char b = 0; b < 256; b++) {
            fault(".=" + b, isOf("wr", b) ? Edge.NONE : 2);
            fault("mm=" + b + "1", isOf("wr", b) ? Edge.NONE : 3);
        }
    }

    static void promise10AFigureOfEveryByte() {
        for (char b = 0; b < 256; b++) {
            fault("m..m=w" + b, isOf("3456789", b) ? Edge.NONE : 6);
            fault("mmm=r11" + b, isOf("23456789", b) ? Edge.NONE : 7);
            fault("mm=w" + b, isOf("123456789", b) ? Edge.NONE : 4);
        }
    }

    static void promise10HowManyFiguresAreDue() {
        for (String form : new String[] {"w", "r"}) {
            fault(".=" + form, Edge.NONE);
            fault(".=" + form + "9", 3);
            fault("m=" + form, Edge.NONE);
            fault("m=" + form + "9", 3);
            fault("mm=" + form, 4);
            fault("mm=" + form + "9", Edge.NONE);
            fault("mm=" + form + "99", 5);
        }
        fault("mmm=w9", 6);
        fault("mmm=w99", Edge.NONE);
        fault("mmm=w999", 7);
        fault("mmm=r99", 7);
        fault("mmm=r999", Edge.NONE);
        fault("mmm=r9999", 8);
        fault("mmmm=w99", 8);
        fault("mmmm=w999", Edge.NONE);
        fault("mmmm=w9999", 9);
        fault("mmmm=r999", 9);
        fault("mmmm=r9999", Edge.NONE);
        fault("mmmm=r99999", 10);
    }

    static void promise10AChainThatWouldNotBeKept() {
        fault("m.m.=w1", 6);
        fault("m.m.=w2", Edge.NONE);
        fault("m.mm=w21", Edge.NONE);
        fault("m.mm=w11", 6);
        fault("mm.m=w11", 7);
        fault("mm.m=w12", Edge.NONE);
        fault("mmmm=r1112", 9);
        fault("mmmm=r1113", Edge.NONE);
        fault("mmmm=r2193", Edge.NONE);
        fault("m.../..../...m=w4", 16);
        fault("m.../..../...m=w5", Edge.NONE);
        fault("m#m=w1", 5);
        fault("m#m=w2", Edge.NONE);
    }

    /** Two MEN of each two KINDS, so far from one another, by each LENGTH. */
    static void promise10HowFarAChainReaches() {
        for (int pair = 0; pair < 36; pair++) {
            char one = MEN.charAt(pair / 6);
            char other = MEN.charAt(pair % 6);
            int more = (one == 't' ? 1 : one == 's' ? -1 : 0) + (other == 't' ? 1 : other == 's' ? -1 : 0);
            for (int far = 1; far <= 5; far++) {
                char[] cells = "..../..../....".toCharArray();
                int columns = Math.min(far, 3);
                cells[0] = one;
                cells[5 * (far - columns) + columns] = other;
                for (int length = 1; length <= 9; length++) {
                    boolean kept = far <= Math.max(1, length + more);
                    fault(new String(cells) + "=w" + length, kept ? Edge.NONE : 16);
                }
            }
        }
    }

    static void promise10BehindAllChainsNothingButBlanks() {
        for (char b = 0; b < 256; b++) {
            fault("mm=w1" + b, b == ' ' ? Edge.NONE : 5);
            fault("mm=w1  " + b, b == ' ' ? Edge.NONE : 7);
            fault(".=r" + b, b == ' ' ? Edge.NONE : 3);
        }
    }

    static void promise10BlanksAheadAndBehindAsManyAsWanted() {
        for (int ahead = 0; ahead <= 40 - WHOLE.length(); ahead++) {
            fault(blanks(ahead) + WHOLE, Edge.NONE);
            fault(WHOLE + blanks(ahead), Edge.NONE);
            fault(blanks(ahead) + WHOLE + blanks(40 - WHOLE.length() - ahead), Edge.NONE);
        }
        fault(blanks(37) + ".=w", Edge.NONE);
        fault(".=w" + blanks(37), Edge.NONE);
        fault(blanks(38) + ".=", 40);
    }

    static void promise10NoBlankInside() {
        for (int p = 1; p < WHOLE.length(); p++) {
            fault(WHOLE.substring(0, p) + " " + WHOLE.substring(p), p);
            fault("  " + WHOLE.substring(0, p) + " " + WHOLE.substring(p), p + 2);
        }
    }

    static void promise10ItsSizeIfItEndsTooEarly() {
        for (int p = 0; p < WHOLE.length(); p++) {
            fault(WHOLE.substring(0, p), p);
            fault("   " + WHOLE.substring(0, p), p + 3);
        }
    }

    static void promise10ItsSizeIfThereAreBlanksAlone() {
        for (int size = 0; size <= 40; size++) {
            fault(blanks(size), size);
        }
    }

    static void promise10TheFirstPlaceOfSeveral() {
        fault("x/=", 0);
        fault("..x=q", 2);
        fault("mmmmm=q", 4);
        fault("../...=w", 5);
        fault("m.m=q1", 4);
        fault("m.m=w0x", 5);
        fault("m.m=w1x", 5);
        fault("m.m=w2x", 6);
    }

    static void promise10BadText() {
        Edge.bad("fault(t)", ChainedMen::fault, Edge.NO_TEXT);
    }

    static void promise10MissingIsNothing() {
        Edge.finds("fault(1)", Edge::busy, Edge.NOTHING, x -> x.fault(1));
        Edge.finds("fault(3)", Edge::busy, Edge.NOTHING, x -> x.fault(3));
    }

    static void promise10ChangesNothing() {
        Edge.aside("fault(0)", Edge::busy, Edge.NONE, x -> x.fault(0));
        Edge.aside("fault(2)", Edge::busy, 1, x -> x.fault(2));
        Edge.aside("fault(1) of another YARD", x -> {
            Due.write(x, 1, "##/mm=r9");
            Edge.busy(x);
        }, Edge.NONE, x -> x.fault(1));
    }

    // ---- 11 yard

    static void promise11TellsHowManyMen() {
        String[] yards = {".#=w", "m#=w", "mm=w1", "mmm=w11", "mmmm=w111"};
        for (int men = 0; men <= 4; men++) {
            ChainedMen x = new ChainedMen();
            Due.write(x, 2, yards[men]);
            is("yard of " + yards[men], x.yard(2), men);
            is("count(0)", x.count(0), men);
            is("count(1)", x.count(1), yards[men].indexOf('='));
            is("count(3)", x.count(3), Math.max(0, men - 1));
        }
    }

    static void promise11MenAndCellsGoByLines() {
        ChainedMen x = Edge.made(Edge.yardOf("#.d/s../.at=w999"));
        int[] cells = {2, 3, 7, 8};
        int[] kinds = {4, 5, 2, 1};
        for (int i = 0; i < 4; i++) {
            is("who(" + cells[i] + ")", x.who(cells[i]), i);
            x.man(i, 0);
            is("his KIND", x.asked(), kinds[i]);
        }
    }

    static void promise11AllIsAnew() {
        ChainedMen x = Edge.made(Edge::busy);
        is("yard(0)", x.yard(0), 4);
        int[] counts = {4, 12, 0, 4, 0, 1, 3, 2, 0, 0};
        for (int what = 0; what < 10; what++) {
            is("count(" + what + ")", x.count(what), counts[what]);
        }
        is("no STEPS", x.undo(1), Edge.BAD);
        is("who(0)", x.who(0), 0);
        is("who(5)", x.who(5), 2);
        is("who(10)", x.who(10), 3);
        is("MAN 0 did not STEP", x.man(0, 3) + x.asked(), 1);
        is("no QUARRELS", x.peace(1), Edge.BAD);
        is("CHAIN 1 is not OPEN", x.chain(1, 3) + x.asked(), 1);
        for (int k = 0; k < 3; k++) {
            is("on(" + k + ")", x.on(k), Edge.FINDING);
        }
        is("TIDE", x.tide(0), 0);
        is("as a new one steps", x.step(0, 2), 4);
    }

    /** All that man() and chain() tell. */
    private static java.util.List<Integer> told(ChainedMen x) {
        java.util.List<Integer> all = new java.util.ArrayList<>();
        for (int n = 0; n < 4 * x.count(0); n++) {
            x.man(n / 4, n % 4);
            all.add(x.asked());
        }
        for (int n = 0; n < 4 * x.count(3); n++) {
            x.chain(n / 4, n % 4);
            all.add(x.asked());
        }
        return all;
    }

    static void promise11NothingIsLeftOfAnother() {
        Edge.Scene[] ahead = {Edge::busy, Edge::nobody, Edge.yardOf("tsam/#..#/..#.=w999")};
        String[] signs = {"m..=w", "../mm=r1", "m/t/a=w11", "l.s./..../#..d=r395", "..=w"};
        for (String one : signs) {
            ChainedMen fresh = Edge.made(Edge.yardOf(one));
            for (Edge.Scene scene : ahead) {
                ChainedMen x = Edge.made(scene);
                Edge.yard(x, one);
                is(one + ", reach()", x.reach(), fresh.reach());
                is(one + ", man(), chain()", told(x).equals(told(fresh)) ? 1 : 0, 1);
                for (int i = 0; i < 4; i++) {
                    is(one + ", can(" + i + ")", x.can(i), fresh.can(i));
                    is(one + ", where(" + i + ")", x.where(i), fresh.where(i));
                }
                for (int c = 0; c < 13; c++) {
                    is(one + ", who(" + c + ")", x.who(c), fresh.who(c));
                }
            }
        }
    }

    static void promise11NoWallIsLeftOfAnyTextReadAhead() {
        ChainedMen x = Edge.made(Edge.yardOf("##m/###=w"));
        Edge.yard(x, "m##/###=w");
        Due.write(x, 1, "m##/###=w9");
        is("one with a FAULT", x.fault(1), 9);
        is("it is no YARD", x.yard(1), Edge.STATE);
        Due.write(x, 2, "m##/###=w");
        is("one without", x.fault(2), Edge.NONE);
        for (int n = 0; n < 3; n++) {
            Edge.yard(x, "m../...=w");
            is("no walls, time " + n, x.where(0), 63);
        }
    }

    static void promise11LeavesRowsTextsAskedFindings() {
        ChainedMen x = Edge.made(Edge::busy);
        x.yard(0);
        is("asked()", x.asked(), -7);
        is("finding()", x.finding(), Edge.UNLIKE);
        for (int f = 1; f <= 5; f++) {
            is("findings(" + f + ")", x.findings(f), 1);
        }
        is("ROW 0", Due.holds(x, 0, 4, 1, 5, 10), 1);
        is("ROW 3", x.at(3, 39) + x.asked(), -6);
        is("TEXT 2", x.put(2, 1, 0), 1000 - 56);
    }

    static void promise11TheTextMayChangeThen() {
        ChainedMen x = Edge.made(Edge.yardOf("m.m=w9"));
        x.put(0, 1, '#');
        is("no wall came", x.can(0), 2);
        x.text(0, 0);
        is("three CELLS still", x.count(1), 3);
    }

    static void promise11BadText() {
        Edge.bad("yard(t)", ChainedMen::yard, Edge.NO_TEXT);
    }

    static void promise11MissingIsNothing() {
        Edge.finds("yard(1)", Edge::busy, Edge.NOTHING, x -> x.yard(1));
        Edge.finds("yard(0), new", Edge::empty, Edge.NOTHING, x -> x.yard(0));
    }

    static void promise11AFaultIsState() {
        String[] faults = {"", "   ", "m", "m.=", "m=q", "mm=w", "m.m=w1", ".=w1", "../.=w", "mmmmm=w1111"};
        for (String signs : faults) {
            Edge.refused("yard of '" + signs + "'", x -> {
                Edge.busy(x);
                Due.write(x, 1, signs);
            }, Edge.STATE, x -> x.yard(1));
        }
    }

    // ---- 12 man

    static void promise12EachTellsFour() {
        int[][] told = {{1, 8, 2, 2}, {2, 1, 1, 0}, {0, 5, 1, 2}, {3, 9, 2, 1}};
        for (int i = 0; i < 4; i++) {
            for (int what = 0; what < 4; what++) {
                int man = i;
                int asks = what;
                Edge.tells("man(" + i + ", " + what + ")", Edge::busy, 1, told[i][what], x -> x.man(man, asks));
            }
        }
    }

    static void promise12BadManBadWhat() {
        Edge.bad("man(i, 0)", (x, i) -> x.man(i, 0), -1, 4, Edge.LEAST, Edge.GREATEST);
        Edge.bad("man(0, what)", (x, what) -> x.man(0, what), -1, 4, Edge.LEAST, Edge.GREATEST);
        Edge.refused("man(1, 0), one alone", Edge.yardOf("m=w"), Edge.BAD, x -> x.man(1, 0));
        Edge.refused("man(0, 0), nobody", Edge::nobody, Edge.BAD, x -> x.man(0, 0));
        Edge.refused("man(0, 0), new", Edge::empty, Edge.BAD, x -> x.man(0, 0));
    }

    static void promise12ChainsThatAreNotOpen() {
        ChainedMen x = Edge.made(Edge.yardOf("mmmm=r9999"));
        int[] due = {2, 2, 2, 2};
        for (int k = 0; k < 4; k++) {
            x.open(k, 1);
            due[k]--;
            due[(k + 1) % 4]--;
            for (int i = 0; i < 4; i++) {
                x.man(i, 2);
                is("CHAINS of MAN " + i + ", 0 .. " + k + " OPEN", x.asked(), due[i]);
            }
        }
        ChainedMen y = Edge.made(Edge.yardOf("mmm=w99"));
        int[] inARow = {1, 2, 1};
        for (int i = 0; i < 3; i++) {
            y.man(i, 2);
            is("in a row, MAN " + i, y.asked(), inARow[i]);
        }
        ChainedMen two = Edge.made(Edge.yardOf("mm=r9"));
        is("in a ring of two", two.man(1, 2) + two.asked(), 2);
        ChainedMen one = Edge.made(Edge.yardOf("m=r"));
        is("one alone", one.man(0, 2) + one.asked(), 1);
    }

    static void promise12HowOftenHeSteppedHimself() {
        ChainedMen x = Edge.made(Edge.yardOf("at..=w1"));
        x.step(1, 1);
        x.step(1, 1);
        x.step(1, 1);
        is("the STRONG one", x.man(1, 3) + x.asked(), 3);
        is("the one taken along", x.man(0, 3) + x.asked(), 1);
        x.undo(1);
        is("undone", x.man(1, 3) + x.asked(), 2);
        x.keep(0);
        x.undo(0);
        is("all undone", x.man(1, 3) + x.asked(), 1);
        x.on(0);
        is("gone on from", x.man(1, 3) + x.asked(), 2);
    }

    // ---- 13 chain

    static void promise13EachTellsFour() {
        int[][] told = {{2, 3, 3, 0}, {4, 4, 1, 1}, {4, 4, 1, 0}, {3, 4, 1, 0}};
        for (int k = 0; k < 4; k++) {
            for (int what = 0; what < 4; what++) {
                int chain = k;
                int asks = what;
                Edge.tells("chain(" + k + ", " + what + ")", Edge::busy, 1, told[k][what], x -> x.chain(chain, asks));
            }
        }
    }

    static void promise13BadChainBadWhat() {
        Edge.bad("chain(k, 0)", (x, k) -> x.chain(k, 0), -1, 4, Edge.LEAST, Edge.GREATEST);
        Edge.bad("chain(0, what)", (x, what) -> x.chain(0, what), -1, 4, Edge.LEAST, Edge.GREATEST);
        Edge.refused("chain(3, 0) in a row of four", Edge.yardOf("mmmm=w111"), Edge.BAD, x -> x.chain(3, 0));
        Edge.refused("chain(1, 0) in a ring of two", Edge.yardOf("mm=r1"), Edge.BAD, x -> x.chain(1, 0));
        Edge.refused("chain(0, 0), one alone", Edge.yardOf("m=r"), Edge.BAD, x -> x.chain(0, 0));
        Edge.refused("chain(0, 0), new", Edge::empty, Edge.BAD, x -> x.chain(0, 0));
    }

    static void promise13BetweenWhom() {
        ChainedMen row = Edge.made(Edge.yardOf("m.mm=w91"));
        is("CHAIN 0", row.chain(0, 2) + row.asked(), 3);
        is("CHAIN 1", row.chain(1, 2) + row.asked(), 2);
        ChainedMen ring = Edge.made(Edge.yardOf("m.mm=r915"));
        is("CHAIN 2 is between the last MAN and MAN 0", ring.chain(2, 2) + ring.asked(), 4);
        ChainedMen four = Edge.made(Edge.yardOf("m.../.m../..mm=r9999"));
        int[] far = {2, 2, 1, 5};
        for (int k = 0; k < 4; k++) {
            four.chain(k, 2);
            is("CHAIN " + k + " of four", four.asked(), far[k]);
        }
    }

    /** Of each two KINDS by each LENGTH: 1 at least, 11 at most. */
    static void promise13HowFarItReaches() {
        for (int pair = 0; pair < 36; pair++) {
            char one = MEN.charAt(pair / 6);
            char other = MEN.charAt(pair % 6);
            int more = (one == 't' ? 1 : one == 's' ? -1 : 0) + (other == 't' ? 1 : other == 's' ? -1 : 0);
            for (int length = 1; length <= 9; length++) {
                String signs = "" + one + other + "=w" + length;
                int due = Math.max(1, length + more);
                Edge.Scene scene = Edge.yardOf(signs);
                ChainedMen x = Edge.made(scene);
                is(signs + ", LENGTH", x.chain(0, 0) + x.asked(), 1 + length);
                is(signs + ", REACHES", x.chain(0, 1) + x.asked(), 1 + due);
                x.open(0, 1);
                is(signs + ", REACHES, OPEN", x.chain(0, 1) + x.asked(), 1 + due);
            }
        }
    }

    // ---- 14 mark

    static void promise14EachKindIsWhatItIs() {
        int[] is = {0, 1 << 1, 1 << 2, 1 << 3, 1 << 2 | 1 << 4, 1 << 3 | 1 << 5};
        for (int own = 0; own < 6; own++) {
            Edge.Scene scene = Edge.yardOf(MEN.charAt(own) + "=w");
            for (int kind = 1; kind <= 5; kind++) {
                int asks = kind;
                if ((is[own] >> kind & 1) == 1) {
                    Edge.aside("mark(0, " + kind + ") of " + own, scene, kind == 5 ? Edge.NONE : 0, x -> x.mark(0, asks));
                } else {
                    Edge.finds("mark(0, " + kind + ") of " + own, scene, Edge.UNLIKE, x -> x.mark(0, asks));
                }
            }
        }
    }

    static void promise14BadManBadKind() {
        Edge.bad("mark(i, 1)", (x, i) -> x.mark(i, 1), -1, 4, Edge.LEAST, Edge.GREATEST);
        Edge.bad("mark(0, kind)", (x, kind) -> x.mark(0, kind), -1, 0, 6, Edge.LEAST, Edge.GREATEST);
        Edge.bad("mark(2, kind) of a MAN", (x, kind) -> x.mark(2, kind), -1, 0, 6);
        Edge.bad("mark(4, kind), BAD ahead of UNLIKE", (x, kind) -> x.mark(4, kind), 1, 2, 3, 4, 5);
        Edge.refused("mark(0, 1), new", Edge::empty, Edge.BAD, x -> x.mark(0, 1));
    }

    static void promise14AStrongOnesSleepers() {
        String[] yards = {"tm=w9", "ta=w9", "td=w9", "at=w9", "ata=w99", "atd=w99", "taa=r999", "taa=w99", "tt=w9", "tl=w9"};
        int[] who = {0, 0, 0, 1, 1, 1, 0, 0, 0, 0};
        int[] due = {0, 1, 0, 1, 2, 1, 2, 1, 0, 0};
        for (int n = 0; n < yards.length; n++) {
            is("mark(.., 1) in " + yards[n], Edge.made(Edge.yardOf(yards[n])).mark(who[n], 1), due[n]);
        }
        ChainedMen x = Edge.made(Edge.yardOf("ata=w99"));
        x.open(0, 1);
        is("one OPEN", x.mark(1, 1), 1);
        x.open(1, 1);
        is("both OPEN", x.mark(1, 1), 0);
    }

    static void promise14ASleepersStrongOnes() {
        String[] yards = {"am=w9", "at=w9", "dt=w9", "tat=w99", "tdt=w99", "att=r999", "att=w99", "aa=w9"};
        int[] who = {0, 0, 0, 1, 1, 0, 0, 0};
        int[] due = {0, 1, 1, 2, 2, 2, 1, 0};
        for (int n = 0; n < yards.length; n++) {
            is("mark(.., 2) in " + yards[n], Edge.made(Edge.yardOf(yards[n])).mark(who[n], 2), due[n]);
        }
        ChainedMen x = Edge.made(Edge.yardOf("tdt=w99"));
        x.open(1, 1);
        is("one OPEN", x.mark(1, 2), 1);
    }

    static void promise14ALameOnesWays() {
        String[] yards = {".l.=w", "l.=w", "l=w", ".l#=w", ".s.=w", ".../.l./...=w", ".lm=w1", "ml.=w1"};
        int[] who = {0, 0, 0, 0, 0, 0, 0, 1};
        int[] due = {2, 1, 0, 1, 2, 2, 0, 0};
        for (int n = 0; n < yards.length; n++) {
            is("mark(.., 3) in " + yards[n], Edge.made(Edge.yardOf(yards[n])).mark(who[n], 3), due[n]);
        }
    }

    static void promise14ADeadOnesFarOnes() {
        is("2 far is not farther", Edge.made(Edge.yardOf("d.m.=w9")).mark(0, 4), 0);
        is("3 far is", Edge.made(Edge.yardOf("d..m=w9")).mark(0, 4), 1);
        is("3 far by lines, too", Edge.made(Edge.yardOf("d./../.m=w9")).mark(0, 4), 1);
        is("all three", Edge.made(Edge.yardOf("d..m/...m/..m.=w999")).mark(0, 4), 3);
        is("the first of them", Edge.made(Edge.yardOf("m..d=w9")).mark(1, 4), 1);
        is("the first and the last", Edge.made(Edge.yardOf("m..d/..../m.m.=w999")).mark(1, 4), 3);
        is("whether chained or not", Edge.made(Edge.yardOf("dm.m=w99")).mark(0, 4), 1);
        ChainedMen x = Edge.made(Edge.yardOf("d..m=w9"));
        x.open(0, 1);
        is("OPEN or not", x.mark(0, 4), 1);
    }

    static void promise14AShortOnesLeastReach() {
        is("he has none", Edge.made(Edge.yardOf("s=w")).mark(0, 5), Edge.NONE);
        is("one", Edge.made(Edge.yardOf("sm=w9")).mark(0, 5), 8);
        is("1 at least", Edge.made(Edge.yardOf("ss=w1")).mark(1, 5), 1);
        is("the first of two", Edge.made(Edge.yardOf("msm=w48")).mark(1, 5), 3);
        is("the second of two", Edge.made(Edge.yardOf("msm=w84")).mark(1, 5), 3);
        is("not another's", Edge.made(Edge.yardOf("smm=w91")).mark(0, 5), 8);
        is("the last of a ring", Edge.made(Edge.yardOf("smm=r915")).mark(0, 5), 4);
        ChainedMen x = Edge.made(Edge.yardOf("msm=w48"));
        x.open(0, 1);
        is("an OPEN one, too", x.mark(1, 5), 3);
        x.open(1, 1);
        is("all OPEN", x.mark(1, 5), 3);
        Edge.aside("NONE changes nothing", Edge.yardOf("s=w"), Edge.NONE, y -> y.mark(0, 5));
    }

    // ---- 15 tide

    static void promise15TidesAre0To3() {
        ChainedMen x = Edge.made(Edge.yardOf("m=w"));
        int was = 0;
        for (int v : new int[] {0, 3, 2, 1, 3, 0}) {
            is("tide(" + v + ")", x.tide(v), was);
            was = v;
        }
        Edge.bad("tide(v)", ChainedMen::tide, -1, 4, Edge.LEAST, Edge.GREATEST);
    }

    static void promise15WithoutCellsState() {
        for (int v = 0; v <= 3; v++) {
            int tide = v;
            Edge.refused("tide(" + v + ")", Edge::empty, Edge.STATE, x -> x.tide(tide));
        }
        Edge.refused("tide(4), BAD ahead of STATE", Edge::empty, Edge.BAD, x -> x.tide(4));
        Edge.refused("tide(-1), BAD ahead of STATE", Edge::empty, Edge.BAD, x -> x.tide(-1));
    }

    static void promise15CellsWithoutMenHaveATide() {
        ChainedMen x = Edge.made(Edge::nobody);
        is("tide(2)", x.tide(2), 0);
        is("tide(0)", x.tide(0), 2);
    }

    static void promise15LinesFromTheLastOneOn() {
        int[] ofThree = {15, 11, 1, 0};
        int[] ofTwo = {14, 10, 0, 0};
        int[] ofOne = {10, 0, 0, 0};
        for (int v = 0; v <= 3; v++) {
            ChainedMen x = Edge.made(Edge.yardOf(".../.m./...=w"));
            x.tide(v);
            is("in the middle, TIDE " + v, x.can(0), ofThree[v]);
            ChainedMen y = Edge.made(Edge.yardOf(".m./...=w"));
            y.tide(v);
            is("in the first of two, TIDE " + v, y.can(0), ofTwo[v]);
            ChainedMen z = Edge.made(Edge.yardOf(".m.=w"));
            z.tide(v);
            is("in one line, TIDE " + v, z.can(0), ofOne[v]);
        }
    }

    static void promise15WhoStandsInTheWaterStaysThere() {
        ChainedMen x = Edge.made(Edge.yardOf("m.m/.m.=w99"));
        x.tide(3);
        is("who(0)", x.who(0), 0);
        is("who(2)", x.who(2), 1);
        is("who(4)", x.who(4), 2);
        is("no STEPS", x.count(2), 0);
        is("no STAND but this", x.reach(), 1);
    }

    // ---- 16 open

    static void promise16TellsWhatItWas() {
        ChainedMen x = Edge.made(Edge.yardOf("mmm=w11"));
        is("open(0, 0)", x.open(0, 0), 0);
        is("open(0, 1)", x.open(0, 1), 0);
        is("open(0, 1)", x.open(0, 1), 1);
        is("the other one is not", x.open(1, 1), 0);
        is("both", x.count(4), 2);
        is("open(0, 0)", x.open(0, 0), 1);
        is("open(0, 0)", x.open(0, 0), 0);
        is("the other one is still", x.open(1, 0), 1);
        is("none", x.count(4), 0);
        is("asked() is not told", x.asked(), 0);
    }

    static void promise16BadChainBadIs() {
        Edge.bad("open(k, 1)", (x, k) -> x.open(k, 1), -1, 4, Edge.LEAST, Edge.GREATEST);
        Edge.bad("open(k, 0)", (x, k) -> x.open(k, 0), -1, 4, Edge.LEAST, Edge.GREATEST);
        Edge.bad("open(1, is)", (x, is) -> x.open(1, is), -1, 2, Edge.LEAST, Edge.GREATEST);
        Edge.refused("open(0, 1), one alone", Edge.yardOf("m=w"), Edge.BAD, x -> x.open(0, 1));
        Edge.refused("open(0, 1), new", Edge::empty, Edge.BAD, x -> x.open(0, 1));
    }

    private static void apart(ChainedMen x) {
        Edge.yard(x, "m.m.=w2");
        x.open(0, 1);
        x.step(1, 1);
    }

    static void promise16WouldNotBeKeptIsState() {
        Edge.refused("open(0, 0), 3 far", YardEdgesTest::apart, Edge.STATE, x -> x.open(0, 0));
        Edge.aside("open(0, 1) is always KEPT", YardEdgesTest::apart, 1, x -> x.open(0, 1));
        Edge.refused("open(0, 2), BAD ahead of STATE", YardEdgesTest::apart, Edge.BAD, x -> x.open(0, 2));
        ChainedMen x = Edge.made(YardEdgesTest::apart);
        x.step(0, 1);
        is("just as far as it REACHES", x.open(0, 0), 1);
    }

    static void promise16NotOpenAndNotKeptIsState() {
        Edge.Scene scene = x -> {
            apart(x);
            x.step(0, 1);
            x.open(0, 0);
            x.undo(1);
        };
        Edge.refused("open(0, 0) of one left not KEPT by undo()", scene, Edge.STATE, x -> x.open(0, 0));
        ChainedMen x = Edge.made(scene);
        is("open(0, 1)", x.open(0, 1), 0);
    }

    static void promise16TheOthersDoNotMatter() {
        ChainedMen x = Edge.made(Edge.yardOf("mm.m/....=w19"));
        x.open(0, 1);
        x.step(0, 2);
        x.open(1, 1);
        is("CHAIN 0 would not be KEPT", x.open(0, 0), Edge.STATE);
        is("CHAIN 1 would be", x.open(1, 0), 1);
    }
}
