/** Promises 23 to 29, sentence by sentence: where all can come to, in how few STEPS, by which. */
public final class WhereToEdgesTest {
    private static final int STATE = Edge.STATE, BAD = Edge.BAD, NONE = Edge.NONE;
    private static final String DEEP = "ta../.m#./..l.=r2443";

    public static void main(String[] args) {
        Edge.runAll(WhereToEdgesTest.class, 23, 29);
    }

    private static void is(String what, long got, long want) {
        Edge.is(what, got, want);
    }

    /** A YARD, and a ROW 4 with these places. */
    private static Edge.Scene row(String signs, int... places) {
        return x -> {
            Edge.yard(x, signs);
            Due.fill(x, 4, places);
        };
    }

    // ---- 23 near

    private static void near(String signs, int fewest, int first, int... aim) {
        Edge.tells("near in " + signs + java.util.Arrays.toString(aim), row(signs, aim), fewest, first, x -> x.near(4));
    }

    static void promise23AsItIsIsNoneFar() {
        near("m.=w", 0, NONE, 0);
        near("m.=w", 0, NONE, NONE);
        near("m.m./....=w2", 0, NONE, 0, 2);
        near("m.m./....=w2", 0, NONE, NONE, NONE);
        near("m.m./....=w2", 0, NONE, NONE, 2);
        near("a=w", 0, NONE, 0);
    }

    static void promise23TheFewestAndTheFirstOfThem() {
        near("m.=w", 1, 1, 1);
        near("m./..=w", 2, 1, 3);
        near("./m=w", 1, 0, 0);
        near(".m=w", 1, 3, 0);
        near("m../.#./...=w", 4, 1, 8);
        near("m#./.../...=w", 4, 2, 8);
        near("m.m./....=w9", 2, 2, 4, 6);
        near("m.m./....=w9", 1, 12, NONE, 6);
        near("m.m./....=w9", 1, 2, 4, NONE);
        near("m.m./....=w2", 2, 1, NONE, 3);
    }

    static void promise23OfAlikeOnesTheFirstByStepsNotByStand() {
        near(".m./.m.=w9", 2, 1, NONE, 1);
    }

    static void promise23CellsAndNoneAlone() {
        near("m.../..../....=w", 5, 1, 11);
        for (int v : new int[] {12, -1, -8, -10, Edge.LEAST, Edge.GREATEST}) {
            Edge.finds("no CELL of twelve, " + v, row("m.../..../....=w", v), Edge.UNLIKE, x -> x.near(4));
        }
        near("m=w", 0, NONE, 0);
        Edge.finds("no CELL of one, 1", row("m=w", 1), Edge.UNLIKE, x -> x.near(4));
        for (int place = 0; place < 4; place++) {
            int[] aim = {NONE, NONE, NONE, NONE};
            aim[place] = 12;
            Edge.finds("no CELL at place " + place, row(DEEP, aim), Edge.UNLIKE, x -> x.near(4));
        }
    }

    static void promise23NoneLeadsThere() {
        String[] yards = {"m#.=w", "m#=w", "a.=w", "l/.=w"};
        int[] aims = {2, 1, 1, 1};
        for (int n = 0; n < yards.length; n++) {
            Edge.aside("near in " + yards[n], row(yards[n], aims[n]), NONE, x -> x.near(4));
        }
        Edge.aside("two on one CELL", row("m.m=w9", 1, 1), NONE, x -> x.near(4));
        Edge.aside("farther than the CHAIN REACHES", row("mm..=w1", 0, 3), NONE, x -> x.near(4));
        Edge.aside("past one another", row("mm.=w9", 1, 0), NONE, x -> x.near(4));
    }

    static void promise23NoneLeavesAsked() {
        ChainedMen x = Edge.made(row("m#.=w", 77));
        x.lay(4, 0, 2);
        is("told by lay()", x.asked(), 77);
        is("near(4)", x.near(4), NONE);
        is("asked()", x.asked(), 77);
    }

    static void promise23TideAndChainsMatter() {
        ChainedMen x = Edge.made(row("m./..=w", 3));
        x.tide(1);
        is("into the WATER", x.near(4), NONE);
        x.tide(0);
        is("no WATER", x.near(4), 2);
        ChainedMen y = Edge.made(row("mm..=w1", 0, 3));
        y.open(0, 1);
        is("OPEN", y.near(4), 2);
        y.open(0, 0);
        is("not OPEN", y.near(4), NONE);
    }

    static void promise23With60StepsToo() {
        ChainedMen x = Edge.made(row("m.=w", 1));
        for (int n = 0; n < 60; n++) {
            x.step(0, n % 2 == 0 ? 1 : 3);
        }
        is("near(4)", x.near(4), 1);
    }

    static void promise23BadRow() {
        Edge.bad("near(r)", ChainedMen::near, Edge.NO_ROW);
    }

    static void promise23BadStateNothingSizeUnlike() {
        Edge.refused("BAD ahead of STATE", Edge::empty, BAD, x -> x.near(6));
        Edge.refused("BAD ahead of STATE, nobody", Edge::nobody, BAD, x -> x.near(-1));
        Edge.refused("STATE ahead of NOTHING", Edge::empty, STATE, x -> x.near(0));
        Edge.refused("STATE ahead of NOTHING, nobody", Edge::nobody, STATE, x -> x.near(0));
        Edge.refused("STATE ahead of SIZE", row("..=w", 99), STATE, x -> x.near(4));
        Edge.refused("STATE, as many as MEN", row("..=w"), STATE, x -> x.near(4));
        Edge.finds("NOTHING", Edge::busy, Edge.NOTHING, x -> x.near(5));
        Edge.finds("SIZE, one less", row("m.m./....=w2", 0), Edge.SIZE, x -> x.near(4));
        Edge.finds("SIZE, one more", row("m.m./....=w2", 0, 2, 0), Edge.SIZE, x -> x.near(4));
        Edge.finds("SIZE, none", Edge::busy, Edge.SIZE, x -> x.near(1));
        Edge.finds("SIZE, 40", Edge::busy, Edge.SIZE, x -> x.near(3));
        Edge.finds("SIZE ahead of UNLIKE", row("m.m./....=w2", 99, -1, 99), Edge.SIZE, x -> x.near(4));
        Edge.finds("UNLIKE ahead of NONE", row("m#m=w2", 1, 99), Edge.UNLIKE, x -> x.near(4));
    }

    /** Calls with each STAND of four MEN in twelve CELLS: an object takes a hundred of them. */
    private static void eachStand(Edge.CallWith call) {
        ChainedMen x = null;
        int many = 0;
        for (int stand = 0; stand < 20736; stand++) {
            int[] cells = {stand / 1728, stand / 144 % 12, stand / 12 % 12, stand % 12};
            if (java.util.Arrays.stream(cells).distinct().count() < 4) {
                continue;
            }
            if (many % 70 == 0) {
                x = Edge.made(row("mmmm/..../....=w999", 0, 1, 2, 3));
                x.row(5, 4);
            }
            many++;
            for (int i = 0; i < 4; i++) {
                x.lay(5, i, cells[i]);
            }
            call.on(x, stand);
        }
        is("all STANDS", many, 11880);
    }

    static void promise23EveryStandOfTheLargestYard() {
        ChainedMen y = Edge.made(Edge.yardOf("mmmm/..../....=w999"));
        y.reach();
        int most = y.asked();
        int[] far = new int[100];
        eachStand((x, stand) -> far[Math.max(x.near(5), 0)]++);
        is("as it is, or none leads there", far[0], 1);
        is("a STEP each down", far[1], 4);
        is("as far as reach() tells", far[most] > 0 && far[most + 1] == 0 ? 1 : 0, 1);
    }

    /** From each STAND that is 16 far in the largest YARD each STEP leads to one that is 1 far. */
    static void promise23EachStepFromTheFarthestStands() {
        java.util.List<int[]> farthest = new java.util.ArrayList<>();
        eachStand((x, stand) -> {
            if (x.near(5) == 16) {
                farthest.add(new int[] {stand / 1728, stand / 144 % 12, stand / 12 % 12, stand % 12});
            }
            return 0;
        });
        is("how many are 16 far", farthest.size() > 0 ? 1 : 0, 1);
        for (int[] cells : farthest) {
            ChainedMen x = Edge.made(row("mmmm/..../....=w999", cells));
            x.reach();
            is("path", x.path(4, 5), 16);
            for (int n = 0; n < 16; n++) {
                x.at(5, n);
                x.step(x.asked() / 10, x.asked() % 10);
            }
            for (int n = 0; n < 16; n++) {
                int to = x.step(n / 4, n % 4);
                if (to >= 0) {
                    x.undo(16);
                    Due.fill(x, 4, cells);
                    x.lay(4, n / 4, to);
                    is("near", x.near(4), 1);
                    is("the STEP", x.asked(), n / 4 * 10 + n % 4);
                }
            }
        }
    }

    // ---- 24 path

    private static ChainedMen path(String signs, int[] aim, int... due) {
        ChainedMen x = Edge.made(row(signs, aim));
        x.row(2, 9);
        x.lay(2, 8, 5);
        is("path in " + signs, x.path(4, 2), due.length);
        is("asked() is not told", x.asked(), 0);
        is("the STEPS in " + signs, Due.holds(x, 2, due), 1);
        is("what was asked for stays", Due.holds(x, 4, aim), 1);
        is("nobody went", x.count(2), 0);
        return x;
    }

    static void promise24TheseStepsComeAnew() {
        path("m.=w", new int[] {1}, 1);
        path("m./..=w", new int[] {3}, 1, 2);
        path("m.m./....=w9", new int[] {4, 6}, 2, 12);
        path("m.m./....=w9", new int[] {NONE, 7}, 11, 12);
        path(".m./.m.=w9", new int[] {NONE, 1}, 1, 10);
    }

    static void promise24NoStepsAreAnEmptyRow() {
        path("m.=w", new int[] {0});
        path("m.m./....=w9", new int[] {NONE, NONE});
        ChainedMen x = Edge.made(row("m.=w", 0));
        is("path(4, 5)", x.path(4, 5), 0);
        is("ROW 5 is there", x.count(6), 2);
        is("without places", x.mean(5), Edge.FINDING);
        is("NOUGHT", x.finding(), Edge.NOUGHT);
    }

    static void promise24PerhapsTheSameRow() {
        ChainedMen x = Edge.made(row("m./..=w", 3));
        is("path(4, 4)", x.path(4, 4), 2);
        is("came", Due.holds(x, 4, 1, 2), 1);
        is("one ROW", x.count(6), 1);
    }

    static void promise24AMissingRowComesToBe() {
        for (int to = 0; to < 6; to++) {
            ChainedMen x = Edge.made(row("m./..=w", 3));
            is("path(4, " + to + ")", x.path(4, to), 2);
            is("came", Due.holds(x, to, 1, 2), 1);
        }
    }

    static void promise24FortyStepsComeOneMoreIsNone() {
        Edge.tells("near, 40", row(DEEP, 0, 9, 7, 10), 40, 2, x -> x.near(4));
        Edge.tells("near, 41", row(DEEP, 0, 9, 11, 10), 41, 2, x -> x.near(4));
        ChainedMen x = Edge.made(row(DEEP, 0, 9, 7, 10));
        is("path, 40", x.path(4, 5), 40);
        is("all can be done", x.judge(5), 40);
        int[] steps = new int[40];
        for (int n = 0; n < 40; n++) {
            x.at(5, n);
            steps[n] = x.asked();
        }
        for (int step : steps) {
            x.step(step / 10, step % 10);
        }
        is("they lead there", x.near(4), 0);
        Edge.aside("path, 41", row(DEEP, 0, 9, 11, 10), NONE, y -> y.path(4, 5));
        Edge.aside("path, 41, onto itself", row(DEEP, 0, 9, 11, 10), NONE, y -> y.path(4, 4));
    }

    static void promise24NoneLeavesAllRows() {
        Edge.aside("path(4, 5), missing", row("m#.=w", 2), NONE, x -> x.path(4, 5));
        Edge.aside("path(4, 4)", row("m#.=w", 2), NONE, x -> x.path(4, 4));
    }

    static void promise24BadRows() {
        Edge.bad("path(r, 5)", (x, r) -> x.path(r, 5), Edge.NO_ROW);
        Edge.bad("path(0, to)", (x, to) -> x.path(0, to), Edge.NO_ROW);
        Edge.bad("path(5, to), BAD ahead of NOTHING", (x, to) -> x.path(5, to), Edge.NO_ROW);
        Edge.bad("path(1, to), BAD ahead of SIZE", (x, to) -> x.path(1, to), Edge.NO_ROW);
    }

    static void promise24BadStateNothingSizeUnlike() {
        Edge.refused("BAD ahead of STATE", Edge::empty, BAD, x -> x.path(6, 0));
        Edge.refused("BAD ahead of STATE, to", Edge::empty, BAD, x -> x.path(0, 6));
        Edge.refused("STATE ahead of NOTHING", Edge::empty, STATE, x -> x.path(0, 1));
        Edge.refused("STATE, nobody", Edge::nobody, STATE, x -> x.path(0, 1));
        Edge.refused("STATE ahead of SIZE", row("..=w", 99), STATE, x -> x.path(4, 4));
        Edge.finds("NOTHING", Edge::busy, Edge.NOTHING, x -> x.path(5, 0));
        Edge.finds("SIZE, one less", row("m.m./....=w2", 0), Edge.SIZE, x -> x.path(4, 5));
        Edge.finds("SIZE, one more", row("m.m./....=w2", 0, 2, 0), Edge.SIZE, x -> x.path(4, 5));
        Edge.finds("SIZE ahead of UNLIKE", row("m.m./....=w2", 99, -1, 99), Edge.SIZE, x -> x.path(4, 4));
        Edge.finds("UNLIKE", row("m.m./....=w2", NONE, 8), Edge.UNLIKE, x -> x.path(4, 5));
        Edge.finds("UNLIKE, below", row("m.m./....=w2", -1, NONE), Edge.UNLIKE, x -> x.path(4, 4));
    }

    // ---- 25 reach

    static void promise25AsItIsToo() {
        String[] yards = {"m=w", "a..=w", "m#=w", "m.=w", "m..=w", ".m.=w", "m./..=w", "l./..=w", "at..=w1", "mm=w1"};
        int[] stands = {1, 1, 1, 2, 3, 3, 4, 2, 3, 1};
        int[] most = {0, 0, 0, 1, 2, 1, 2, 1, 2, 0};
        for (int n = 0; n < yards.length; n++) {
            Edge.tells("reach() in " + yards[n], Edge.yardOf(yards[n]), stands[n], most[n], ChainedMen::reach);
        }
    }

    static void promise25AllStandsOfTheLargestYard() {
        ChainedMen x = Edge.made(Edge.yardOf("mmmm/..../....=w999"));
        is("12 times 11 times 10 times 9", x.reach(), 11880);
        is("with 60 STEPS", x.lots(60, 7) >= 0 ? x.reach() : 0, 11880);
        x.tide(3);
        is("all in the WATER", x.reach(), 1);
        is("asked()", x.asked(), 0);
    }

    static void promise25WithoutMenState() {
        Edge.refused("reach(), new", Edge::empty, STATE, ChainedMen::reach);
        Edge.refused("reach(), nobody", Edge::nobody, STATE, ChainedMen::reach);
    }

    // ---- 26 where

    static void promise26HisOwnCellToo() {
        Edge.tells("one CELL", Edge.yardOf("m=w"), 1, 0, x -> x.where(0));
        Edge.tells("asleep", Edge.yardOf(".a.=w"), 2, 0, x -> x.where(0));
        Edge.tells("all twelve", Edge.yardOf("m.../..../....=w"), 4095, 5, x -> x.where(0));
        Edge.tells("a wall", Edge.yardOf("m#../..../....=w"), 4093, 5, x -> x.where(0));
        Edge.tells("the last CELL", Edge.yardOf("..../..../...d=w"), 2048, 0, x -> x.where(0));
        Edge.tells("a lame one", Edge.yardOf(".../.l./...=w"), 56, 1, x -> x.where(0));
        Edge.tells("taken along", Edge.yardOf("at..=w1"), 5, 2, x -> x.where(0));
        Edge.tells("who takes along", Edge.yardOf("at..=w1"), 14, 2, x -> x.where(1));
    }

    static void promise26TheFewestToTheFarthestCell() {
        Edge.tells("the other one must go ahead", Edge.yardOf("mm..=w1"), 1, 0, x -> x.where(0));
        Edge.tells("one behind the other", Edge.yardOf("mm..=w2"), 7, 4, x -> x.where(0));
        Edge.tells("the one ahead", Edge.yardOf("mm..=w2"), 14, 3, x -> x.where(1));
    }

    static void promise26BadMan() {
        Edge.bad("where(i)", ChainedMen::where, -1, 4, Edge.LEAST, Edge.GREATEST);
        Edge.refused("where(1), one alone", Edge.yardOf("m=w"), BAD, x -> x.where(1));
        Edge.refused("where(0), new", Edge::empty, BAD, x -> x.where(0));
        Edge.refused("where(0), nobody", Edge::nobody, BAD, x -> x.where(0));
    }

    // ---- 27 meet

    static void promise27SideBySideIs1FromOneAnother() {
        String[] yards = {"mm=w1", "m/m=w1", "m./.m=w2", "m.m=w2", "m..m=w3", "m.../..../...m=w5", "aa=w1", "a..m=w9"};
        int[] due = {0, 0, 1, 1, 2, 4, 0, 2};
        for (int n = 0; n < yards.length; n++) {
            Edge.aside("meet(0, 1) in " + yards[n], Edge.yardOf(yards[n]), due[n], x -> x.meet(0, 1));
            Edge.aside("meet(1, 0) in " + yards[n], Edge.yardOf(yards[n]), due[n], x -> x.meet(1, 0));
        }
    }

    static void promise27TheyCannot() {
        for (String signs : new String[] {"m#m=w9", "a.a=w9", "d.d=w9", "l/./l=w9"}) {
            Edge.aside("meet(0, 1) in " + signs, Edge.yardOf(signs), NONE, x -> x.meet(0, 1));
        }
    }

    static void promise27BadMenAndOneAlone() {
        Edge.bad("meet(i, 0)", (x, i) -> x.meet(i, 0), -1, 4, Edge.LEAST, Edge.GREATEST);
        Edge.bad("meet(0, j)", (x, j) -> x.meet(0, j), -1, 4, Edge.LEAST, Edge.GREATEST);
        Edge.bad("meet(i, i)", (x, i) -> x.meet(i, i), 0, 1, 2, 3, 4, -1);
        Edge.aside("meet(3, 2), the last ones", Edge::busy, 0, x -> x.meet(3, 2));
        Edge.aside("meet(2, 3), the last ones", Edge::busy, 0, x -> x.meet(2, 3));
        Edge.refused("meet(0, 1), one alone", Edge.yardOf("m.=w"), BAD, x -> x.meet(0, 1));
        Edge.refused("meet(0, 1), new", Edge::empty, BAD, x -> x.meet(0, 1));
    }

    // ---- 28 window

    static void promise28AllInOneColumn() {
        String[] yards = {"m=w", "m../.../m..=w2", "mm./...=w2", "mm./...=w2", "mm./...=w2", "...m=w", "...m=w"};
        int[] columns = {0, 0, 0, 1, 2, 3, 0};
        int[] due = {0, 0, 2, 2, 4, 0, 3};
        for (int n = 0; n < yards.length; n++) {
            int column = columns[n];
            Edge.aside("window(" + column + ") in " + yards[n], Edge.yardOf(yards[n]), due[n], x -> x.window(column));
        }
    }

    static void promise28TheyCannot() {
        for (int column = 0; column < 4; column++) {
            int to = column;
            Edge.aside("four in three lines", Edge.yardOf("mmmm/..../....=w999"), NONE, x -> x.window(to));
        }
        Edge.aside("a wall", Edge.yardOf("m#=w"), NONE, x -> x.window(1));
        Edge.aside("asleep", Edge.yardOf("a.=w"), NONE, x -> x.window(1));
    }

    static void promise28AColumnThatThereIsNot() {
        for (int width = 1; width <= 4; width++) {
            Edge.Scene scene = Edge.yardOf("m" + ".".repeat(width - 1) + "=w");
            for (int column = -1; column <= 5; column++) {
                int to = column;
                if (column >= 0 && column < width) {
                    Edge.aside("window(" + to + ") of " + width, scene, column, x -> x.window(to));
                } else {
                    Edge.refused("window(" + to + ") of " + width, scene, BAD, x -> x.window(to));
                }
            }
        }
        Edge.bad("window(x)", ChainedMen::window, -1, 4, Edge.LEAST, Edge.GREATEST);
    }

    static void promise28WithoutCellsEachIsBad() {
        for (int column = -1; column <= 4; column++) {
            int to = column;
            Edge.refused("window(" + to + ")", Edge::empty, BAD, x -> x.window(to));
        }
    }

    static void promise28WithoutMenStateBehindBad() {
        for (int column = 0; column <= 4; column++) {
            int to = column;
            Edge.refused("window(" + to + ") of 3", Edge::nobody, column < 3 ? STATE : BAD, x -> x.window(to));
        }
    }

    // ---- 29 comes

    private static Edge.Scene two(String signs, int[] one, int[] other) {
        return x -> {
            Edge.yard(x, signs);
            Due.fill(x, 4, one);
            Due.fill(x, 5, other);
        };
    }

    private static void comes(String signs, int[] one, int[] other, int there, int back) {
        Edge.aside("there in " + signs, two(signs, one, other), there, x -> x.comes(4, 5));
        Edge.aside("back in " + signs, two(signs, one, other), back, x -> x.comes(5, 4));
    }

    static void promise29FromTheOneToTheOther() {
        comes("m.=w", new int[] {0}, new int[] {1}, 1, 1);
        comes("m.=w", new int[] {1}, new int[] {1}, 1, 1);
        comes("a.=w", new int[] {0}, new int[] {1}, 0, 0);
        comes("a.=w", new int[] {1}, new int[] {1}, 1, 1);
        comes("m#.=w", new int[] {2}, new int[] {0}, 0, 0);
        comes("at..=w1", new int[] {0, 1}, new int[] {2, 3}, 1, 0);
        comes("mm../....=w2", new int[] {0, 1}, new int[] {1, 0}, 1, 1);
        comes("mm..=w2", new int[] {0, 1}, new int[] {1, 0}, 0, 0);
        comes("mmmm/..../....=w999", new int[] {0, 1, 2, 3}, new int[] {11, 10, 9, 8}, 1, 1);
    }

    static void promise29EveryStandOfTheLargestYard() {
        int[] can = new int[2];
        eachStand((x, stand) -> can[Math.max(x.comes(4, 5), 0)]++);
        is("one can come to each", can[1], 11880);
    }

    static void promise29NotFromWhereTheyAre() {
        ChainedMen x = Edge.made(two("at..=w1", new int[] {0, 1}, new int[] {0, 2}));
        x.step(1, 1);
        x.step(1, 1);
        is("from a STAND to which they can't come back", x.comes(4, 5), 1);
    }

    static void promise29ChainsAndTideAsTheyAre() {
        ChainedMen x = Edge.made(two("m./..=w", new int[] {0}, new int[] {2}));
        x.tide(1);
        is("into the WATER", x.comes(4, 5), 0);
        is("out of it", x.comes(5, 4), 1);
        is("stays in it", x.comes(5, 5), 1);
        x.tide(0);
        is("no WATER", x.comes(4, 5), 1);
        ChainedMen y = Edge.made(two("mm..=w1", new int[] {0, 1}, new int[] {0, 3}));
        y.open(0, 1);
        is("OPEN", y.comes(4, 5), 1);
        y.open(0, 0);
        is("not KEPT", y.comes(4, 5), Edge.FINDING);
    }

    static void promise29BadRows() {
        Edge.bad("comes(r, 0)", (x, r) -> x.comes(r, 0), Edge.NO_ROW);
        Edge.bad("comes(0, q)", (x, q) -> x.comes(0, q), Edge.NO_ROW);
        Edge.bad("comes(5, q), BAD ahead of NOTHING", (x, q) -> x.comes(5, q), Edge.NO_ROW);
    }

    private static void unlike(String what, int... stand) {
        Edge.finds(what + ", the one", two("mm#/...=w2", stand, new int[] {0, 1}), Edge.UNLIKE, x -> x.comes(4, 5));
        Edge.finds(what + ", the other one", two("mm#/...=w2", new int[] {0, 1}, stand), Edge.UNLIKE, x -> x.comes(4, 5));
        Edge.finds(what + ", both", two("mm#/...=w2", stand, stand), Edge.UNLIKE, x -> x.comes(4, 5));
    }

    static void promise29UnlikeOfEither() {
        unlike("no CELL", 0, 6);
        unlike("no CELL, MAN 0", 6, 0);
        unlike("below", -1, 0);
        unlike("NONE", 0, NONE);
        unlike("far off", Edge.LEAST, Edge.GREATEST);
        unlike("a wall", 1, 2);
        unlike("a wall, MAN 0", 2, 1);
        unlike("two on one CELL", 3, 3);
        unlike("a CHAIN not KEPT", 0, 5);
        comes("mm#/...=w2", new int[] {0, 1}, new int[] {3, 5}, 1, 1);
        comes("mm#/...=w3", new int[] {0, 1}, new int[] {0, 5}, 1, 1);
    }

    static void promise29BadStateNothingSizeUnlike() {
        Edge.refused("BAD ahead of STATE", Edge::empty, BAD, x -> x.comes(6, 0));
        Edge.refused("BAD ahead of STATE, the other", Edge::empty, BAD, x -> x.comes(0, 6));
        Edge.refused("STATE ahead of NOTHING", Edge::empty, STATE, x -> x.comes(0, 1));
        Edge.refused("STATE, nobody", Edge::nobody, STATE, x -> x.comes(0, 1));
        Edge.refused("STATE ahead of SIZE", row("..=w", 99), STATE, x -> x.comes(4, 4));
        Edge.finds("NOTHING, the one", Edge::busy, Edge.NOTHING, x -> x.comes(5, 0));
        Edge.finds("NOTHING, the other", Edge::busy, Edge.NOTHING, x -> x.comes(0, 5));
        Edge.finds("NOTHING of the other ahead of SIZE of the one", Edge::busy, Edge.NOTHING, x -> x.comes(1, 5));
        Edge.finds("NOTHING of the one ahead of SIZE of the other", Edge::busy, Edge.NOTHING, x -> x.comes(5, 1));
        Edge.finds("SIZE, the one", two("m.m=w9", new int[] {0}, new int[] {0, 2}), Edge.SIZE, x -> x.comes(4, 5));
        Edge.finds("SIZE, the other", two("m.m=w9", new int[] {0}, new int[] {0, 2}), Edge.SIZE, x -> x.comes(5, 4));
        Edge.finds("SIZE, one more", two("m.m=w9", new int[] {0, 2, 1}, new int[] {0, 2}), Edge.SIZE, x -> x.comes(4, 5));
        Edge.finds("SIZE of the other ahead of UNLIKE of the one",
            two("m.m=w9", new int[] {9, 9}, new int[] {0}), Edge.SIZE, x -> x.comes(4, 5));
        Edge.finds("SIZE of the one ahead of UNLIKE of the other",
            two("m.m=w9", new int[] {9, 9}, new int[] {0}), Edge.SIZE, x -> x.comes(5, 4));
    }
}
