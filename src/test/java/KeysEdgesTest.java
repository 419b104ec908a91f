/** Promises 32 to 35, sentence by sentence: keys, files, STEPS judged. */
public final class KeysEdgesTest {
    private static final int STATE = Edge.STATE, BAD = Edge.BAD, NONE = Edge.NONE;

    public static void main(String[] args) {
        Edge.runAll(KeysEdgesTest.class, 32, 35);
    }

    private static void is(String what, long got, long want) {
        Edge.is(what, got, want);
    }

    /** A YARD, and a ROW 4 with these places. */
    private static Edge.Scene row(String signs, int... places) {
        return x -> {
            Edge.yard(x, signs);
            Due.fill(x, 4, places);
        };
    }

    /** As many times the same number. */
    private static int[] times(int many, int v) {
        int[] all = new int[many];
        java.util.Arrays.fill(all, v);
        return all;
    }

    // ---- 32 keys

    private static void keys(String signs, int fewest, int which, int... sets) {
        Edge.tells("keys in " + signs + java.util.Arrays.toString(sets), row(signs, sets), fewest, which, x -> x.keys(4));
    }

    static void promise32TheFewest() {
        keys("mm=w1", 1, 1, 1);
        keys("mmmm=r9999", 1, 8, 1, 2, 4, 15);
        keys("mmmm=r9999", 4, 15, 1, 2, 4, 8);
        keys("mmmm=r9999", 2, 6, 1, 3, 12, 8);
        keys("mmmm=r9999", 2, 5, 7, 0, 8);
    }

    static void promise32OfAlikeOnesTheLeastBits() {
        keys("mm=w1", 1, 1, 1, 1, 1);
        keys("mmmm=r9999", 2, 3, 3, 12, 3, 12);
        keys("mmmm=r9999", 2, 5, 3, 3, 12, 12);
        keys("mmmm=r9999", 2, 3, 8, 7, 8, 7);
        keys("mmmm=r9999", 2, 5, 8, 8, 7, 7);
        keys("mmmm=r9999", 1, 128, 1, 2, 4, 8, 1, 2, 4, 15);
    }

    static void promise32NoneIsDue() {
        keys("m=w", 0, 0);
        keys("m=w", 0, 0, 0, 0);
        ChainedMen x = Edge.made(row("mmm=w11", 0));
        x.open(0, 1);
        x.open(1, 1);
        is("all OPEN", x.keys(4), 0);
        is("by none", x.asked(), 0);
    }

    static void promise32OpenOnesNeedNone() {
        ChainedMen x = Edge.made(row("mmm=w11", 1, 2));
        is("both", x.keys(4), 2);
        x.open(0, 1);
        is("the second", x.keys(4), 1);
        is("by", x.asked(), 2);
        x.open(0, 0);
        x.open(1, 1);
        is("the first", x.keys(4), 1);
        is("by", x.asked(), 1);
    }

    static void promise32TheyDoNotIsNone() {
        Edge.aside("none", row("mm=w1"), NONE, x -> x.keys(4));
        Edge.aside("a key of nothing", row("mm=w1", 0), NONE, x -> x.keys(4));
        Edge.aside("all but one", row("mmmm=r9999", 1, 2, 4, 7), NONE, x -> x.keys(4));
    }

    static void promise32NoneLeavesAsked() {
        ChainedMen x = Edge.made(row("mm=w1", 1));
        x.lay(4, 0, 0);
        is("keys(4)", x.keys(4), NONE);
        is("asked()", x.asked(), 1);
    }

    static void promise32EightAtMost() {
        keys("mm=w1", 1, 128, 0, 0, 0, 0, 0, 0, 0, 1);
        keys("mmmm=r9999", 4, 240, 0, 0, 0, 0, 1, 2, 4, 8);
        Edge.finds("nine", row("mm=w1", times(9, 1)), Edge.SIZE, x -> x.keys(4));
        Edge.finds("40", Edge::busy, Edge.SIZE, x -> x.keys(3));
    }

    static void promise32NoSetIsUnlike() {
        String[] yards = {"m=w", "mm=w9", "mmm=w99", "mmm=r999", "mmmm=w999", "mmmm=r9999"};
        int[] chains = {0, 1, 2, 3, 3, 4};
        for (int n = 0; n < yards.length; n++) {
            int all = (1 << chains[n]) - 1;
            keys(yards[n], chains[n] == 0 ? 0 : 1, chains[n] == 0 ? 0 : 1, all);
            for (int v : new int[] {all + 1, -1, -9, 1 << 4, Edge.LEAST, Edge.GREATEST}) {
                Edge.finds("a set " + v + " in " + yards[n], row(yards[n], all, v), Edge.UNLIKE, x -> x.keys(4));
            }
        }
    }

    static void promise32NoSetAtEachPlace() {
        for (int place = 0; place < 8; place++) {
            int[] sets = times(8, 1);
            sets[place] = 2;
            Edge.finds("place " + place, row("mm=w1", sets), Edge.UNLIKE, x -> x.keys(4));
        }
    }

    static void promise32AnOpenChainStaysInASet() {
        ChainedMen x = Edge.made(row("mmm=w11", 3, 2));
        x.open(1, 1);
        is("keys(4)", x.keys(4), 1);
        is("by", x.asked(), 1);
    }

    static void promise32BadStateNothingSizeUnlike() {
        Edge.bad("keys(r)", ChainedMen::keys, Edge.NO_ROW);
        Edge.refused("BAD ahead of STATE", Edge::empty, BAD, x -> x.keys(6));
        Edge.refused("STATE ahead of NOTHING", Edge::empty, STATE, x -> x.keys(0));
        Edge.refused("STATE, nobody", Edge::nobody, STATE, x -> x.keys(0));
        Edge.refused("STATE ahead of SIZE", row("..=w", times(9, 9)), STATE, x -> x.keys(4));
        Edge.refused("STATE, no keys", row("..=w"), STATE, x -> x.keys(4));
        Edge.finds("NOTHING", Edge::busy, Edge.NOTHING, x -> x.keys(5));
        Edge.finds("SIZE ahead of UNLIKE", row("mm=w1", times(9, 9)), Edge.SIZE, x -> x.keys(4));
    }

    // ---- 33 free

    private static void free(String signs, int man, int fewest, int which, int... sets) {
        Edge.tells("free(" + man + ", ..) in " + signs, row(signs, sets), fewest, which, x -> x.free(man, 4));
    }

    static void promise33HisChainsAlone() {
        free("mmm=w11", 0, 1, 1, 1, 2);
        free("mmm=w11", 1, 2, 3, 1, 2);
        free("mmm=w11", 2, 1, 2, 1, 2);
        free("mmmm=r9999", 0, 2, 9, 1, 2, 4, 8);
        free("mmmm=r9999", 1, 2, 3, 1, 2, 4, 8);
        free("mmmm=r9999", 2, 2, 6, 1, 2, 4, 8);
        free("mmmm=r9999", 3, 2, 12, 1, 2, 4, 8);
        free("mm=r9", 1, 1, 1, 1);
    }

    static void promise33TheFewestThenTheLeast() {
        free("mmm=w11", 1, 1, 4, 1, 2, 3);
        free("mmm=w11", 0, 1, 1, 1, 1, 3);
        free("mmm=w11", 1, 2, 3, 1, 2, 1, 2);
    }

    static void promise33WhoHasNone() {
        free("m=w", 0, 0, 0);
        ChainedMen x = Edge.made(row("mmm=w11"));
        x.open(0, 1);
        is("the first one", x.free(0, 4), 0);
        is("by none", x.asked(), 0);
        is("the middle one", x.free(1, 4), NONE);
        x.open(1, 1);
        is("the middle one then", x.free(1, 4), 0);
    }

    static void promise33NoneLeavesAll() {
        Edge.aside("free(1, ..)", row("mmm=w11", 1), NONE, x -> x.free(1, 4));
        Edge.aside("free(2, ..)", row("mmm=w11", 1), NONE, x -> x.free(2, 4));
        Edge.aside("no keys", row("mmm=w11"), NONE, x -> x.free(0, 4));
    }

    static void promise33EightAtMost() {
        free("mm=w1", 0, 1, 128, 0, 0, 0, 0, 0, 0, 0, 1);
        Edge.finds("nine", row("mm=w1", times(9, 1)), Edge.SIZE, x -> x.free(0, 4));
    }

    static void promise33NoSetIsUnlike() {
        for (int v : new int[] {4, -1, 8, Edge.LEAST, Edge.GREATEST}) {
            Edge.finds("a set " + v, row("mmm=w11", 3, v), Edge.UNLIKE, x -> x.free(0, 4));
        }
        free("mmm=w11", 0, 1, 1, 3);
    }

    static void promise33BadNothingSizeUnlike() {
        Edge.bad("free(i, 0)", (x, i) -> x.free(i, 0), -1, 4, Edge.LEAST, Edge.GREATEST);
        Edge.bad("free(0, r)", (x, r) -> x.free(0, r), Edge.NO_ROW);
        Edge.bad("free(i, 5), BAD ahead of NOTHING", (x, i) -> x.free(i, 5), -1, 4);
        Edge.bad("free(i, 3), BAD ahead of SIZE", (x, i) -> x.free(i, 3), -1, 4);
        Edge.refused("free(0, 0), new: no such MAN", Edge::empty, BAD, x -> x.free(0, 0));
        Edge.refused("free(0, 0), nobody: no such MAN", Edge::nobody, BAD, x -> x.free(0, 0));
        Edge.finds("NOTHING", Edge::busy, Edge.NOTHING, x -> x.free(0, 5));
        Edge.finds("SIZE ahead of UNLIKE", row("mm=w1", times(9, 9)), Edge.SIZE, x -> x.free(0, 4));
    }

    // ---- 34 filed

    private static void filed(String signs, int which, int none, int... seen) {
        Edge.tells("filed in " + signs + java.util.Arrays.toString(seen), row(signs, seen), which, none, x -> x.filed(4));
    }

    static void promise34NothingSeen() {
        filed("mmm=w11", 3, 1);
        filed("mmmm=r9999", 15, 1);
        filed("m=w", 0, 1);
    }

    static void promise34AllKept() {
        filed("mmm./....=w11", 3, 1, 0, 1, 2);
        filed("mmm./....=w11", 3, 1, 0, 1, 2, 4, 5, 6);
    }

    static void promise34OneNotKeptIsTheOne() {
        filed("mmm./....=w11", 1, 0, 0, 2, 3);
        filed("mmm./....=w11", 2, 0, 0, 1, 3);
        filed("mmm./....=w11", 1, 0, 0, 1, 2, 0, 2, 3);
        filed("mmm./....=r192", 4, 0, 0, 1, 3);
    }

    static void promise34TwoNotKeptAreNone() {
        filed("mmm./....=w11", 0, 0, 0, 2, 0);
        filed("mmm./....=w11", 0, 0, 0, 2, 3, 0, 1, 3);
    }

    static void promise34AsFarAsItReaches() {
        filed("mm../....=w3", 1, 1, 0, 3);
        filed("mm../....=w3", 1, 0, 0, 7);
        filed("tm../....=w3", 1, 1, 0, 7);
        filed("sm../....=w3", 1, 0, 0, 3);
    }

    static void promise34OpenOnesWereNotFiled() {
        ChainedMen x = Edge.made(row("mmm./....=w11", 0, 2, 3));
        x.open(0, 1);
        is("CHAIN 0 is OPEN, so it is KEPT", x.filed(4), 2);
        is("none was", x.asked(), 1);
        x.open(1, 1);
        is("all OPEN", x.filed(4), 0);
        is("none was", x.asked(), 1);
    }

    static void promise34WallsAndTwoOnOneCellAreSeen() {
        filed("mm#=w1", 1, 1, 1, 2);
        filed("mm#=w1", 1, 1, 0, 0);
    }

    static void promise34WholeStandsEightAtMost() {
        String[] yards = {"m=w", "mm=w1", "mmm=w11", "mmmm=w111"};
        for (int men = 1; men <= 4; men++) {
            Edge.Scene eight = row(yards[men - 1], times(8 * men, 0));
            Edge.tells("eight of " + men, eight, (1 << men - 1) - 1, 1, x -> x.filed(4));
            Edge.finds("nine of " + men, row(yards[men - 1], times(9 * men, 0)), Edge.SIZE, x -> x.filed(4));
            for (int more = 1; more < men; more++) {
                Edge.finds(more + " of " + men, row(yards[men - 1], times(more, 0)), Edge.SIZE, x -> x.filed(4));
                Edge.finds("seven and " + more + " of " + men, row(yards[men - 1], times(7 * men + more, 0)), Edge.SIZE, x -> x.filed(4));
            }
        }
        Edge.finds("ten of four", Edge::busy, Edge.SIZE, x -> x.filed(3));
    }

    static void promise34NoCellIsUnlike() {
        filed("mm=w1", 1, 1, 0, 1);
        for (int v : new int[] {2, -1, NONE, 12, Edge.LEAST, Edge.GREATEST}) {
            Edge.finds("first, " + v, row("mm=w1", v, 0), Edge.UNLIKE, x -> x.filed(4));
            Edge.finds("last, " + v, row("mm=w1", 0, 1, 0, v), Edge.UNLIKE, x -> x.filed(4));
        }
        filed("mm../..../....=w9", 1, 1, 11, 11);
        Edge.finds("12 of twelve", row("mm../..../....=w9", 11, 12), Edge.UNLIKE, x -> x.filed(4));
    }

    static void promise34BadStateNothingSizeUnlike() {
        Edge.bad("filed(r)", ChainedMen::filed, Edge.NO_ROW);
        Edge.refused("BAD ahead of STATE", Edge::empty, BAD, x -> x.filed(6));
        Edge.refused("STATE ahead of NOTHING", Edge::empty, STATE, x -> x.filed(0));
        Edge.refused("STATE, nobody", Edge::nobody, STATE, x -> x.filed(0));
        Edge.refused("STATE ahead of UNLIKE", row("..=w", 99), STATE, x -> x.filed(4));
        Edge.finds("NOTHING", Edge::busy, Edge.NOTHING, x -> x.filed(5));
        Edge.finds("SIZE ahead of UNLIKE, not whole", row("mm=w1", 99), Edge.SIZE, x -> x.filed(4));
        Edge.finds("SIZE ahead of UNLIKE, nine", row("mm=w1", times(18, 99)), Edge.SIZE, x -> x.filed(4));
    }

    // ---- 35 judge

    private static void judge(String signs, int first, int far, int... steps) {
        Edge.tells("judge in " + signs + java.util.Arrays.toString(steps), row(signs, steps), first, far, x -> x.judge(4));
    }

    static void promise35NoSteps() {
        judge("m.=w", 0, 0);
        judge("m.m=w2", 0, 2);
        judge("m.m/..m=r333", 0, 6);
    }

    static void promise35AsManyAsThereAre() {
        judge("m.=w", 1, 0, 1);
        judge("m.=w", 2, 0, 1, 3);
        int[] forty = new int[40];
        for (int n = 0; n < 40; n++) {
            forty[n] = n % 2 == 0 ? 1 : 3;
        }
        judge("m.=w", 40, 0, forty);
        forty[39] = 1;
        judge("m.=w", 39, 0, forty);
        forty[0] = 3;
        judge("m.=w", 0, 0, forty);
    }

    static void promise35TheFirstThatCannotBeDone() {
        judge("m.m./....=w2", 0, 2, 11);
        judge("m.m./....=w2", 1, 1, 1, 1);
        judge("m.m./....=w2", 2, 2, 1, 11, 11, 1, 1);
        judge("a.=w", 0, 0, 1);
        judge("l./..=w", 1, 0, 1, 2, 3);
        judge("at..=w1", 2, 1, 11, 11, 11);
        judge("at..=w1", 1, 2, 11);
    }

    static void promise35HowFarAllChainsAreOpenOnesToo() {
        ChainedMen x = Edge.made(row("m.m./...m=r999", 1, 11));
        is("judge(4)", x.judge(4), 2);
        is("asked()", x.asked(), 2 + 1 + 3);
        x.open(0, 1);
        x.open(2, 1);
        is("judge(4), two OPEN", x.judge(4), 2);
        is("asked()", x.asked(), 2 + 1 + 3);
    }

    static void promise35FromAsItIs() {
        ChainedMen x = Edge.made(row("m..=w", 1, 1));
        is("from CELL 0", x.judge(4), 2);
        x.step(0, 1);
        is("from CELL 1", x.judge(4), 1);
        x.tide(1);
        is("in the WATER", x.judge(4), 0);
        is("nobody went", x.who(1), 0);
    }

    static void promise35With60StepsToo() {
        ChainedMen x = Edge.made(row("m.=w", 1, 3, 1));
        for (int n = 0; n < 60; n++) {
            x.step(0, n % 2 == 0 ? 1 : 3);
        }
        is("judge(4)", x.judge(4), 3);
        is("60 STEPS still", x.count(2), 60);
    }

    static void promise35NoManNoWayIsUnlike() {
        for (int v : new int[] {4, 5, 9, 10, 13, -1, -10, 100, Edge.LEAST, Edge.GREATEST}) {
            Edge.finds("one MAN, " + v, row("m.=w", v), Edge.UNLIKE, x -> x.judge(4));
        }
        for (int v : new int[] {4, 14, 19, 20, 23, -1, -9}) {
            Edge.finds("two MEN, " + v, row("m.m=w9", 1, v), Edge.UNLIKE, x -> x.judge(4));
        }
        for (int v : new int[] {34, 40, 43, 103}) {
            Edge.finds("four MEN, " + v, row("mmmm/....=w999", v, 2), Edge.UNLIKE, x -> x.judge(4));
        }
        judge("mmm./..m.=w999", 1, 4, 33);
        judge("mmm./..m.=w999", 0, 3, 30);
    }

    static void promise35UnlikeBehindOneThatCannotBeDone() {
        Edge.finds("the last one", row("m.=w", 3, 3, 4), Edge.UNLIKE, x -> x.judge(4));
    }

    static void promise35BadStateNothingUnlike() {
        Edge.bad("judge(r)", ChainedMen::judge, Edge.NO_ROW);
        Edge.refused("BAD ahead of STATE", Edge::empty, BAD, x -> x.judge(6));
        Edge.refused("STATE ahead of NOTHING", Edge::empty, STATE, x -> x.judge(0));
        Edge.refused("STATE, nobody", Edge::nobody, STATE, x -> x.judge(0));
        Edge.refused("STATE ahead of UNLIKE", row("..=w", 99), STATE, x -> x.judge(4));
        Edge.refused("STATE, no STEPS", row("..=w"), STATE, x -> x.judge(4));
        Edge.finds("NOTHING", Edge::busy, Edge.NOTHING, x -> x.judge(5));
        Edge.finds("UNLIKE", Edge::busy, Edge.UNLIKE, x -> x.judge(0));
    }
}
