/** Promises 30 and 31, sentence by sentence: wants met one behind the other, in the best order. */
public final class WantsEdgesTest {
    private static final int STATE = Edge.STATE, BAD = Edge.BAD;

    public static void main(String[] args) {
        Edge.runAll(WantsEdgesTest.class, 30, 31);
    }

    private static void is(String what, long got, long want) {
        Edge.is(what, got, want);
    }

    /** A YARD, and a ROW 4 with these wants. */
    private static Edge.Scene wants(String signs, int... wants) {
        return x -> {
            Edge.yard(x, signs);
            Due.fill(x, 4, wants);
        };
    }

    // ---- 30 fetch

    private static void fetch(String signs, int met, int steps, int... wants) {
        Edge.tells("fetch in " + signs + java.util.Arrays.toString(wants), wants(signs, wants), met, steps, x -> x.fetch(4));
    }

    static void promise30NoWants() {
        fetch("m.=w", 0, 0);
        fetch("m.m./....=w9", 0, 0);
    }

    static void promise30OneBehindTheOther() {
        fetch("m...=w", 1, 3, 3);
        fetch("m...=w", 2, 6, 3, 0);
        fetch("m...=w", 3, 9, 3, 0, 3);
        fetch("m...=w", 2, 3, 3, 3);
        fetch("m...=w", 1, 0, 0);
        fetch("m.m./....=w9", 2, 2, 4, 106);
    }

    static void promise30TillOneCannot() {
        fetch("m.#.=w", 0, 0, 2);
        fetch("m.#.=w", 0, 0, 3, 1);
        fetch("m.#.=w", 1, 1, 1, 3);
        fetch("m.#.=w", 1, 1, 1, 3, 0);
        fetch("m.#.=w", 2, 2, 1, 0, 3, 1, 0);
        fetch("m.#.=w", 4, 4, 1, 0, 1, 0, 3);
        fetch("at..=w1", 1, 2, 2, 0);
    }

    static void promise30FiveAtMost() {
        fetch("m...=w", 5, 15, 3, 0, 3, 0, 3);
        Edge.finds("six", wants("m...=w", 3, 0, 3, 0, 3, 0), Edge.SIZE, x -> x.fetch(4));
        Edge.finds("40", Edge::busy, Edge.SIZE, x -> x.fetch(3));
    }

    static void promise30OfAlikeStandsTheFirst() {
        fetch(".m./.m.=w9", 2, 2, 101, 0);
        fetch(".m./.m.=w9", 2, 5, 101, 2);
    }

    static void promise30ByTheFewestFirst() {
        fetch("mm../....=w2", 1, 5, 3);
        fetch("mm../....=w9", 1, 4, 3);
        fetch("ml../....=w9", 1, 5, 3);
    }

    private static void unlike(String signs, int... values) {
        for (int v : values) {
            Edge.finds("fetch of " + v + " in " + signs, wants(signs, v), Edge.UNLIKE, x -> x.fetch(4));
            Edge.finds("order of " + v + " in " + signs, wants(signs, v), Edge.UNLIKE, x -> x.order(4, 5));
        }
    }

    static void promise30NoManNoCellIsUnlike() {
        fetch("m=w", 1, 0, 0);
        unlike("m=w", 1, 99, 100, -1, -100);
        fetch("m.m./....=w9", 1, 0, 0);
        fetch("m.m./....=w9", 1, 4, 7);
        fetch("m.m./....=w9", 1, 2, 107);
        unlike("m.m./....=w9", 8, 12, 99, 108, 199, 200, 300, -1, -9, -99, -100, -101, Edge.LEAST, Edge.GREATEST);
        fetch("mmmm/..../....=w999", 1, 2, 311);
        unlike("mmmm/..../....=w999", 12, 312, 399, 400, 411, 1000);
    }

    static void promise30EachManEachCell() {
        for (int want = 0; want < 400; want = want % 100 == 11 ? want + 89 : want + 1) {
            ChainedMen x = Edge.made(wants("t.../l.m./..s.=w999", want));
            Due.fill(x, 5, Edge.NONE, Edge.NONE, Edge.NONE, Edge.NONE);
            x.lay(5, want / 100, want % 100);
            int far = x.near(5);
            is("fetch of " + want, x.fetch(4), far == Edge.NONE ? 0 : 1);
            is("STEPS of " + want, x.asked(), far == Edge.NONE ? 0 : far);
        }
    }

    static void promise30UnlikeAtEachPlace() {
        for (int place = 0; place < 5; place++) {
            int[] all = new int[5];
            all[place] = 4;
            Edge.finds("place " + place, wants("m...=w", all), Edge.UNLIKE, x -> x.fetch(4));
        }
        Edge.finds("ahead of it one can't", wants("m.#.=w", 3, 4), Edge.UNLIKE, x -> x.fetch(4));
    }

    static void promise30ChainsAndTideAsTheyAre() {
        ChainedMen x = Edge.made(wants("m./..=w", 3));
        x.tide(1);
        is("into the WATER", x.fetch(4), 0);
        is("asked()", x.asked(), 0);
        x.tide(0);
        is("no WATER", x.fetch(4), 1);
        is("asked()", x.asked(), 2);
        ChainedMen y = Edge.made(wants("mm..=w1", 103));
        is("chained", y.fetch(4), 0);
        y.open(0, 1);
        is("OPEN", y.fetch(4), 1);
    }

    static void promise30BadStateNothingSizeUnlike() {
        Edge.bad("fetch(r)", ChainedMen::fetch, Edge.NO_ROW);
        Edge.refused("BAD ahead of STATE", Edge::empty, BAD, x -> x.fetch(6));
        Edge.refused("STATE ahead of NOTHING", Edge::empty, STATE, x -> x.fetch(0));
        Edge.refused("STATE ahead of NOTHING, nobody", Edge::nobody, STATE, x -> x.fetch(0));
        Edge.refused("STATE ahead of SIZE", wants("..=w", 0, 0, 0, 0, 0, 0), STATE, x -> x.fetch(4));
        Edge.refused("STATE without wants", wants("..=w"), STATE, x -> x.fetch(4));
        Edge.finds("NOTHING", Edge::busy, Edge.NOTHING, x -> x.fetch(5));
        Edge.finds("SIZE ahead of UNLIKE", wants("m.=w", -1, -1, -1, -1, -1, -1), Edge.SIZE, x -> x.fetch(4));
    }

    // ---- 31 order

    private static void order(String signs, int met, int[] due, int... wants) {
        ChainedMen x = Edge.made(wants(signs, wants));
        x.row(5, 9);
        x.lay(5, 8, 3);
        is("order in " + signs + java.util.Arrays.toString(wants), x.order(4, 5), met);
        is("asked() is not told", x.asked(), 0);
        is("nobody went", x.count(2), 0);
        is("places in " + signs + java.util.Arrays.toString(wants), Due.holds(x, 5, due), 1);
        is("the wants stay", Due.holds(x, 4, wants), 1);
    }

    private static int[] of(int... places) {
        return places;
    }

    static void promise31NoWantsAreAnEmptyRow() {
        order("m.=w", 0, of());
        ChainedMen x = Edge.made(wants("m.=w"));
        is("order(4, 0), missing", x.order(4, 0), 0);
        is("ROW 0 is there", x.count(6), 2);
    }

    static void promise31MostAreMetAheadOfFewestSteps() {
        order("at..=w1", 2, of(1, 0), 2, 0);
        order("m.#.=w", 1, of(1, 0), 3, 1);
        order("m.#.=w", 1, of(2, 0, 1), 3, 2, 1);
    }

    static void promise31FewestSteps() {
        order("m...=w", 2, of(1, 0), 3, 1);
        order("m...=w", 2, of(0, 1), 1, 3);
        order("m...=w", 3, of(2, 1, 0), 3, 2, 1);
        order(".m..=w", 2, of(0, 1), 0, 3);
        order(".m..=w", 2, of(1, 0), 3, 0);
    }

    static void promise31OfAlikeOrdersTheFirst() {
        order("m...=w", 1, of(0), 2);
        order("m...=w", 3, of(0, 1, 2), 2, 2, 2);
        order(".m.=w", 2, of(0, 1), 0, 2);
        order(".m.=w", 2, of(0, 1), 2, 0);
        order("m..m/....=w9", 2, of(0, 1), 4, 107);
        order("m..m/....=w9", 2, of(0, 1), 107, 4);
    }

    static void promise31WantsThatCannotBeMetComeLast() {
        order("m.#.=w", 0, of(0), 3);
        order("m.#.=w", 0, of(0, 1, 2), 3, 2, 3);
        order("m.#.=w", 1, of(0, 1), 1, 3);
        order("m.#.=w", 1, of(0, 1, 2), 1, 3, 2);
        order("m.#.=w", 2, of(2, 0, 1), 1, 3, 0);
        order(".m.#=w", 2, of(0, 2, 1), 0, 3, 2);
        order("m.#.=w", 1, of(1, 0, 2), 2, 1, 3);
        order("m.#.=w", 2, of(1, 3, 0, 2), 3, 0, 2, 1);
    }

    static void promise31FiveAtMost() {
        order("m...=w", 5, of(4, 2, 3, 1, 0), 3, 2, 1, 1, 0);
        order("m...=w", 5, of(0, 1, 2, 3, 4), 0, 1, 1, 2, 3);
        order("m.#.=w", 4, of(1, 2, 3, 4, 0), 3, 0, 0, 1, 1);
        Edge.finds("six", wants("m...=w", 0, 0, 0, 0, 0, 0), Edge.SIZE, x -> x.order(4, 5));
    }

    static void promise31PerhapsTheSameRow() {
        ChainedMen x = Edge.made(wants("m...=w", 3, 1));
        is("order(4, 4)", x.order(4, 4), 2);
        is("came", Due.holds(x, 4, 1, 0), 1);
        is("one ROW", x.count(6), 1);
    }

    static void promise31BadRows() {
        Edge.bad("order(r, 5)", (x, r) -> x.order(r, 5), Edge.NO_ROW);
        Edge.bad("order(0, to)", (x, to) -> x.order(0, to), Edge.NO_ROW);
        Edge.bad("order(5, to), BAD ahead of NOTHING", (x, to) -> x.order(5, to), Edge.NO_ROW);
        Edge.bad("order(3, to), BAD ahead of SIZE", (x, to) -> x.order(3, to), Edge.NO_ROW);
    }

    static void promise31BadStateNothingSizeUnlike() {
        Edge.refused("BAD ahead of STATE", Edge::empty, BAD, x -> x.order(6, 0));
        Edge.refused("BAD ahead of STATE, to", Edge::empty, BAD, x -> x.order(0, 6));
        Edge.refused("STATE ahead of NOTHING", Edge::empty, STATE, x -> x.order(0, 1));
        Edge.refused("STATE, nobody", Edge::nobody, STATE, x -> x.order(0, 1));
        Edge.refused("STATE ahead of SIZE", wants("..=w", 0, 0, 0, 0, 0, 0), STATE, x -> x.order(4, 4));
        Edge.finds("NOTHING", Edge::busy, Edge.NOTHING, x -> x.order(5, 0));
        Edge.finds("SIZE ahead of UNLIKE", wants("m.=w", -1, -1, -1, -1, -1, -1), Edge.SIZE, x -> x.order(4, 4));
        Edge.finds("UNLIKE, no MAN", wants("m.=w", 0, 100), Edge.UNLIKE, x -> x.order(4, 4));
        Edge.finds("UNLIKE, no CELL", wants("m.=w", 2, 0), Edge.UNLIKE, x -> x.order(4, 5));
    }
}
