/** Promises 1 to 9, sentence by sentence: the last that is taken, the first that is refused. */
public final class RowsEdgesTest {
    private static final int LEAST = Edge.LEAST, GREATEST = Edge.GREATEST;

    public static void main(String[] args) {
        Edge.runAll(RowsEdgesTest.class, 1, 9);
    }

    private static void is(String what, long got, long want) {
        Edge.is(what, got, want);
    }

    private static int place(ChainedMen x, int r, int i) {
        is("at(" + r + ", " + i + ")", x.at(r, i), 1);
        return x.asked();
    }

    /** A ROW 0 of three places, no ROW 1; ROW 2 has none. */
    private static void three(ChainedMen x) {
        Due.fill(x, 0, 7, 8, 9);
        x.row(2, 0);
    }

    // ---- 1 a new object

    static void promise01NothingIsThereAtFirst() {
        ChainedMen x = new ChainedMen();
        for (int what = 0; what < 10; what++) {
            is("count(" + what + ")", x.count(what), 0);
        }
        for (int r = 0; r < 6; r++) {
            is("no ROW " + r, x.tear(r), Edge.FINDING);
        }
        for (int t = 0; t < 4; t++) {
            is("no TEXT " + t, x.fault(t), Edge.FINDING);
        }
        is("each was NOTHING", x.findings(Edge.NOTHING), 10);
        is("no CELL", x.who(0), Edge.BAD);
        is("no MAN", x.can(0), Edge.BAD);
        is("no CHAIN", x.chain(0, 0), Edge.BAD);
    }

    static void promise01TideIsNoughtAtFirst() {
        ChainedMen x = new ChainedMen();
        Edge.yard(x, ".=w");
        is("tide(3)", x.tide(3), 0);
    }

    static void promise01ObjectsHaveNothingInCommon() {
        ChainedMen x = new ChainedMen();
        long fresh = x.digest();
        Edge.busy(new ChainedMen());
        is("digest()", x.digest(), fresh);
        is("asked()", x.asked(), 0);
        is("finding()", x.finding(), 0);
        is("a third one", new ChainedMen().digest(), fresh);
    }

    static void promise01ConstantsAreAsTold() {
        is("BAD", ChainedMen.BAD, -1);
        is("FULL", ChainedMen.FULL, -2);
        is("FINDING", ChainedMen.FINDING, -3);
        is("STATE", ChainedMen.STATE, -4);
        is("SPENT", ChainedMen.SPENT, -6);
        is("NONE", ChainedMen.NONE, -9);
    }

    static void promise01The512thCallAnswersAsTheFirst() {
        ChainedMen x = new ChainedMen();
        for (int n = 0; n < 511; n++) {
            x.at(0, n);
        }
        is("findings(1), the 512th call", x.findings(1), 511);
        ChainedMen y = Edge.made(Edge.yardOf("m.=w"));
        for (int n = 0; n < 253; n++) {
            is("step, time " + n, y.step(0, 1), 1);
            is("undo, time " + n, y.undo(0), 1);
        }
    }

    // ---- 2 row

    static void promise02RowsAre0To5() {
        for (int r = 0; r <= 5; r++) {
            ChainedMen x = new ChainedMen();
            is("row(" + r + ", 1)", x.row(r, 1), 1);
            is("it is there", x.at(r, 0), 1);
            is("it alone", x.count(6), 1);
        }
        Edge.bad("row(r, 3)", (x, r) -> x.row(r, 3), Edge.NO_ROW);
    }

    static void promise02SizesAre0To40() {
        ChainedMen x = new ChainedMen();
        is("row(0, 0)", x.row(0, 0), 0);
        is("none is there", x.at(0, 0), Edge.FINDING);
        is("row(0, 40)", x.row(0, 40), 40);
        is("the last place", place(x, 0, 39), 0);
        is("none behind it", x.at(0, 40), Edge.FINDING);
        is("all six full", x.row(1, 40) + x.row(2, 40) + x.row(3, 40) + x.row(4, 40) + x.row(5, 40), 200);
        is("all are there", x.count(6), 6);
        Edge.bad("row(0, n)", (y, n) -> y.row(0, n), 41, 42, GREATEST);
    }

    static void promise02FewerThanNoneIsSize() {
        Edge.findsFor("row(0, n)", Edge::busy, Edge.SIZE, (x, n) -> x.row(0, n), -1, -9, -41, LEAST);
        Edge.findsFor("row(5, n), missing", Edge::busy, Edge.SIZE, (x, n) -> x.row(5, n), -1, LEAST);
    }

    static void promise02BadIsAheadOfSize() {
        Edge.bad("row(r, -1)", (x, r) -> x.row(r, -1), Edge.NO_ROW);
        Edge.bad("row(r, 41)", (x, r) -> x.row(r, 41), Edge.NO_ROW);
    }

    static void promise02AllPlacesAre0Anew() {
        ChainedMen x = new ChainedMen();
        x.row(3, 40);
        for (int i = 0; i < 40; i++) {
            x.lay(3, i, i + 1);
        }
        x.row(3, 2);
        is("two are there", x.at(3, 2), Edge.FINDING);
        x.row(3, 40);
        for (int i = 0; i < 40; i++) {
            is("place " + i, place(x, 3, i), 0);
        }
    }

    static void promise02OtherRowsStay() {
        ChainedMen x = new ChainedMen();
        three(x);
        x.row(1, 40);
        is("place 2", place(x, 0, 2), 9);
        is("ROW 2 has none", x.at(2, 0), Edge.FINDING);
    }

    static void promise02TellsNothingByAsked() {
        ChainedMen x = new ChainedMen();
        x.row(0, 40);
        is("asked()", x.asked(), 0);
    }

    // ---- 3 lay

    static void promise03TellsWhatItWas() {
        ChainedMen x = Edge.made(RowsEdgesTest::three);
        int[] values = {LEAST, GREATEST, -9, 0, 41};
        int was = 8;
        for (int v : values) {
            is("lay(0, 1, " + v + ")", x.lay(0, 1, v), 1);
            is("what it was", x.asked(), was);
            is("what it is", place(x, 0, 1), v);
            was = v;
        }
        is("ahead of it", place(x, 0, 0), 7);
        is("behind it", place(x, 0, 2), 9);
    }

    static void promise03BadRow() {
        Edge.bad("lay(r, 0, 1)", (x, r) -> x.lay(r, 0, 1), Edge.NO_ROW);
    }

    static void promise03MissingIsNothing() {
        Edge.finds("lay(1, 0, 1)", RowsEdgesTest::three, Edge.NOTHING, x -> x.lay(1, 0, 1));
    }

    static void promise03NoSuchPlaceIsBeyond() {
        Edge.findsFor("lay(0, i, 1)", RowsEdgesTest::three, Edge.BEYOND, (x, i) -> x.lay(0, i, 1),
            -1, 3, 40, LEAST, GREATEST);
        Edge.findsFor("lay(2, i, 1), none there", RowsEdgesTest::three, Edge.BEYOND, (x, i) -> x.lay(2, i, 1), 0, -1);
        Edge.findsFor("lay(3, i, 1), full", Edge::busy, Edge.BEYOND, (x, i) -> x.lay(3, i, 1), -1, 40);
        Edge.tells("lay(3, 39, -7), the last", Edge::busy, 1, -7, x -> x.lay(3, 39, -7));
    }

    static void promise03BadThenNothingThenBeyond() {
        Edge.bad("lay(r, -1, 1)", (x, r) -> x.lay(r, -1, 1), Edge.NO_ROW);
        Edge.findsFor("lay(1, i, 1)", RowsEdgesTest::three, Edge.NOTHING, (x, i) -> x.lay(1, i, 1), -1, 40, GREATEST);
    }

    // ---- 4 at

    static void promise04TellsThePlace() {
        Edge.tells("at(0, 0)", RowsEdgesTest::three, 1, 7, x -> x.at(0, 0));
        Edge.tells("at(0, 2)", RowsEdgesTest::three, 1, 9, x -> x.at(0, 2));
        Edge.tells("at(3, 39)", Edge::busy, 1, -7, x -> x.at(3, 39));
    }

    static void promise04BadRow() {
        Edge.bad("at(r, 0)", (x, r) -> x.at(r, 0), Edge.NO_ROW);
    }

    static void promise04MissingIsNothing() {
        Edge.finds("at(1, 0)", RowsEdgesTest::three, Edge.NOTHING, x -> x.at(1, 0));
    }

    static void promise04NoSuchPlaceIsBeyond() {
        Edge.findsFor("at(0, i)", RowsEdgesTest::three, Edge.BEYOND, (x, i) -> x.at(0, i), -1, 3, 40, LEAST, GREATEST);
        Edge.findsFor("at(2, i), none there", RowsEdgesTest::three, Edge.BEYOND, (x, i) -> x.at(2, i), 0, -1);
        Edge.finds("at(3, 40), full", Edge::busy, Edge.BEYOND, x -> x.at(3, 40));
    }

    static void promise04BadThenNothingThenBeyond() {
        Edge.bad("at(r, -1)", (x, r) -> x.at(r, -1), Edge.NO_ROW);
        Edge.findsFor("at(1, i)", RowsEdgesTest::three, Edge.NOTHING, (x, i) -> x.at(1, i), -1, 40, LEAST);
    }

    // ---- 5 tear

    static void promise05TornIsMissing() {
        ChainedMen x = Edge.made(RowsEdgesTest::three);
        is("tear(0)", x.tear(0), 1);
        is("how many", x.count(6), 1);
        is("at(0, 0)", x.at(0, 0), Edge.FINDING);
        is("NOTHING", x.finding(), Edge.NOTHING);
        is("tear(2), none in it", x.tear(2), 1);
        is("how many then", x.count(6), 0);
        x.row(0, 3);
        is("nothing of it comes back", place(x, 0, 2), 0);
    }

    static void promise05AllIsAsAheadOfRow() {
        ChainedMen x = new ChainedMen();
        long fresh = x.digest();
        x.row(4, 3);
        x.tear(4);
        is("digest()", x.digest(), fresh);
    }

    static void promise05EachOfSixCanBeTorn() {
        for (int r = 0; r < 6; r++) {
            ChainedMen x = new ChainedMen();
            for (int q = 0; q < 6; q++) {
                x.row(q, 1);
            }
            is("tear(" + r + ")", x.tear(r), 1);
            for (int q = 0; q < 6; q++) {
                is("ROW " + q, x.at(q, 0), q == r ? Edge.FINDING : 1);
            }
        }
    }

    static void promise05BadRow() {
        Edge.bad("tear(r)", ChainedMen::tear, Edge.NO_ROW);
    }

    static void promise05MissingIsNothing() {
        Edge.finds("tear(1)", RowsEdgesTest::three, Edge.NOTHING, x -> x.tear(1));
        Edge.finds("tear(0) again", x -> {
            three(x);
            x.tear(0);
        }, Edge.NOTHING, x -> x.tear(0));
    }

    // ---- 6 copy

    /** ROW 0: 1 .. 5; ROW 1: three places; ROW 2: none; ROW 3 missing. */
    private static void five(ChainedMen x) {
        Due.fill(x, 0, 1, 2, 3, 4, 5);
        Due.fill(x, 1, 10, 20, 30);
        x.row(2, 0);
    }

    private static void copied(int r, int i, int to, int j, int n, int... then) {
        ChainedMen x = Edge.made(RowsEdgesTest::five);
        String call = "copy(" + r + ", " + i + ", " + to + ", " + j + ", " + n + ")";
        is(call, x.copy(r, i, to, j, n), 1);
        is(call + " tells nothing", x.asked(), 0);
        is(call + ", the ROW then", Due.holds(x, to, then), 1);
        if (r != to) {
            is(call + ", the other one stays", r == 0 ? Due.holds(x, 0, 1, 2, 3, 4, 5) : Due.holds(x, 1, 10, 20, 30), 1);
        }
    }

    static void promise06PlacesCome() {
        copied(0, 0, 1, 0, 3, 1, 2, 3);
        copied(0, 2, 1, 0, 3, 3, 4, 5);
        copied(0, 4, 1, 2, 1, 10, 20, 5);
        copied(1, 0, 0, 2, 3, 1, 2, 10, 20, 30);
    }

    static void promise06AsIfTakenAhead() {
        copied(0, 0, 0, 1, 4, 1, 1, 2, 3, 4);
        copied(0, 1, 0, 0, 4, 2, 3, 4, 5, 5);
        copied(0, 0, 0, 0, 5, 1, 2, 3, 4, 5);
        copied(0, 0, 0, 2, 3, 1, 2, 1, 2, 3);
    }

    static void promise06NoneCanCome() {
        copied(0, 0, 1, 0, 0, 10, 20, 30);
        copied(0, 5, 1, 3, 0, 10, 20, 30);
        copied(0, 5, 0, 5, 0, 1, 2, 3, 4, 5);
        Edge.aside("copy(2, 0, 2, 0, 0), none there", RowsEdgesTest::five, 1, x -> x.copy(2, 0, 2, 0, 0));
    }

    static void promise06FortyCanCome() {
        ChainedMen x = new ChainedMen();
        x.row(0, 40);
        x.row(5, 40);
        x.lay(0, 0, 3);
        x.lay(0, 39, 4);
        is("copy(0, 0, 5, 0, 40)", x.copy(0, 0, 5, 0, 40), 1);
        is("the first", place(x, 5, 0), 3);
        is("the last", place(x, 5, 39), 4);
        is("copy(0, 0, 5, 0, 41)", x.copy(0, 0, 5, 0, 41), Edge.FINDING);
        is("BEYOND", x.finding(), Edge.BEYOND);
    }

    static void promise06BadRows() {
        Edge.bad("copy(r, 0, 0, 0, 1)", (x, r) -> x.copy(r, 0, 0, 0, 1), Edge.NO_ROW);
        Edge.bad("copy(0, 0, to, 0, 1)", (x, to) -> x.copy(0, 0, to, 0, 1), Edge.NO_ROW);
    }

    static void promise06FewerThanNoneIsSize() {
        Edge.findsFor("copy(0, 0, 1, 0, n)", RowsEdgesTest::five, Edge.SIZE, (x, n) -> x.copy(0, 0, 1, 0, n), -1, -9, LEAST);
    }

    static void promise06EitherMissingIsNothing() {
        Edge.finds("copy(3, 0, 0, 0, 1)", RowsEdgesTest::five, Edge.NOTHING, x -> x.copy(3, 0, 0, 0, 1));
        Edge.finds("copy(0, 0, 3, 0, 1)", RowsEdgesTest::five, Edge.NOTHING, x -> x.copy(0, 0, 3, 0, 1));
        Edge.finds("copy(3, 0, 3, 0, 0)", RowsEdgesTest::five, Edge.NOTHING, x -> x.copy(3, 0, 3, 0, 0));
    }

    static void promise06NotSoManyThereIsBeyond() {
        Edge.findsFor("copy(0, i, 1, 0, 3)", RowsEdgesTest::five, Edge.BEYOND, (x, i) -> x.copy(0, i, 1, 0, 3),
            -1, 3, 5, 6, LEAST, GREATEST);
        Edge.findsFor("copy(0, 0, 1, j, 2)", RowsEdgesTest::five, Edge.BEYOND, (x, j) -> x.copy(0, 0, 1, j, 2),
            -1, 2, 3, 4, LEAST, GREATEST);
        Edge.findsFor("copy(0, 0, 0, 0, n)", RowsEdgesTest::five, Edge.BEYOND, (x, n) -> x.copy(0, 0, 0, 0, n), 6, 41, GREATEST);
        Edge.findsFor("copy(0, 1, 0, 1, n)", RowsEdgesTest::five, Edge.BEYOND, (x, n) -> x.copy(0, 1, 0, 1, n), 5, GREATEST);
        Edge.findsFor("copy(0, i, 1, 0, 0)", RowsEdgesTest::five, Edge.BEYOND, (x, i) -> x.copy(0, i, 1, 0, 0),
            -1, 6, LEAST, GREATEST);
        Edge.findsFor("copy(0, 0, 1, j, 0)", RowsEdgesTest::five, Edge.BEYOND, (x, j) -> x.copy(0, 0, 1, j, 0), -1, 4);
        Edge.finds("copy(2, 0, 0, 0, 1), none there", RowsEdgesTest::five, Edge.BEYOND, x -> x.copy(2, 0, 0, 0, 1));
        Edge.finds("copy(0, 0, 2, 0, 1), none there", RowsEdgesTest::five, Edge.BEYOND, x -> x.copy(0, 0, 2, 0, 1));
    }

    static void promise06BadThenSizeThenNothingThenBeyond() {
        Edge.bad("copy(r, 0, 0, 0, -1)", (x, r) -> x.copy(r, 0, 0, 0, -1), Edge.NO_ROW);
        Edge.bad("copy(5, 0, to, 0, 1)", (x, to) -> x.copy(5, 0, to, 0, 1), Edge.NO_ROW);
        Edge.bad("copy(0, 99, to, 0, 1)", (x, to) -> x.copy(0, 99, to, 0, 1), Edge.NO_ROW);
        Edge.finds("SIZE ahead of NOTHING", RowsEdgesTest::five, Edge.SIZE, x -> x.copy(3, 0, 0, 0, -1));
        Edge.finds("SIZE ahead of BEYOND", RowsEdgesTest::five, Edge.SIZE, x -> x.copy(0, 9, 0, 9, -1));
        Edge.finds("NOTHING ahead of BEYOND", RowsEdgesTest::five, Edge.NOTHING, x -> x.copy(0, 9, 3, 0, 1));
        Edge.finds("NOTHING ahead of BEYOND, too", RowsEdgesTest::five, Edge.NOTHING, x -> x.copy(3, 0, 0, 9, 1));
    }

    // ---- 7 mean

    private static void mean(int want, int... places) {
        Edge.tells("mean, due " + want, x -> Due.fill(x, 4, places), 1, want, x -> x.mean(4));
    }

    static void promise07MeanIsCut() {
        mean(5, 5);
        mean(-5, -5);
        mean(1, 1, 2);
        mean(-1, -1, -2);
        mean(0, 0, 1);
        mean(0, 0, -1);
        mean(0, -1, -1, 0);
        mean(2, 2, 2, 4);
        mean(-2, -2, -2, -4);
        mean(0, LEAST, GREATEST);
    }

    static void promise07GreatSumsDoNotWrap() {
        int[] great = new int[40];
        java.util.Arrays.fill(great, GREATEST);
        mean(GREATEST, great);
        great[39]--;
        mean(GREATEST - 1, great);
        java.util.Arrays.fill(great, LEAST);
        mean(LEAST, great);
        great[0]++;
        mean(LEAST + 1, great);
    }

    static void promise07BadRow() {
        Edge.bad("mean(r)", ChainedMen::mean, Edge.NO_ROW);
    }

    static void promise07MissingIsNothing() {
        Edge.finds("mean(1)", RowsEdgesTest::three, Edge.NOTHING, x -> x.mean(1));
    }

    static void promise07AmongNoneIsNought() {
        Edge.finds("mean(2)", RowsEdgesTest::three, Edge.NOUGHT, x -> x.mean(2));
        Edge.finds("mean(1), busy", Edge::busy, Edge.NOUGHT, x -> x.mean(1));
    }

    // ---- 8 text

    static void promise08TextsAre0To3() {
        for (int t = 0; t <= 3; t++) {
            ChainedMen x = new ChainedMen();
            is("text(" + t + ", 1)", x.text(t, 1), 1);
            is("it is there", x.put(t, 0, 65), 1032);
            is("it alone", x.count(7), 1);
        }
        Edge.bad("text(t, 3)", (x, t) -> x.text(t, 3), Edge.NO_TEXT);
    }

    static void promise08SizesAre0To40() {
        ChainedMen x = new ChainedMen();
        is("text(0, 0)", x.text(0, 0), 0);
        is("none is there", x.put(0, 0, 1), Edge.FINDING);
        is("it is there", x.count(7), 1);
        is("text(0, 40)", x.text(0, 40), 40);
        is("the last byte", x.put(0, 39, 1), 1032);
        is("none behind it", x.put(0, 40, 1), Edge.FINDING);
        Edge.bad("text(0, n)", (y, n) -> y.text(0, n), 41, GREATEST);
    }

    static void promise08FewerThanNoneIsSize() {
        Edge.findsFor("text(0, n)", Edge::busy, Edge.SIZE, (x, n) -> x.text(0, n), -1, -9, -41, LEAST);
        Edge.finds("text(3, -1), missing", Edge::busy, Edge.SIZE, x -> x.text(3, -1));
    }

    static void promise08BadIsAheadOfSize() {
        Edge.bad("text(t, -1)", (x, t) -> x.text(t, -1), Edge.NO_TEXT);
        Edge.bad("text(t, 41)", (x, t) -> x.text(t, 41), Edge.NO_TEXT);
    }

    static void promise08AllBytesAreBlanksAnew() {
        ChainedMen x = new ChainedMen();
        x.text(3, 40);
        for (int i = 0; i < 40; i++) {
            x.put(3, i, i);
        }
        x.text(3, 1);
        x.text(3, 40);
        for (int i = 0; i < 40; i++) {
            is("byte " + i, x.put(3, i, 1), 1032);
        }
    }

    static void promise08RowsAndTextsAreApart() {
        ChainedMen x = new ChainedMen();
        x.text(1, 5);
        is("no ROW 1", x.at(1, 0), Edge.FINDING);
        x.row(1, 2);
        is("five bytes still", x.put(1, 4, 1), 1032);
        x.tear(1);
        is("a TEXT is not torn", x.put(1, 4, 1), 1001);
    }

    // ---- 9 put

    static void promise09CutToAByte() {
        int[][] cut = {{127, 127}, {128, -128}, {255, -1}, {256, 0}, {-128, -128}, {-129, 127}, {-1, -1}, {0, 0},
            {GREATEST, -1}, {LEAST, 0}, {1000, -24}, {65, 65}};
        for (int[] one : cut) {
            ChainedMen x = new ChainedMen();
            x.text(2, 2);
            is("put(2, 1, " + one[0] + "), a blank was there", x.put(2, 1, one[0]), 1032);
            is("what " + one[0] + " was cut to", x.put(2, 1, 7), 1000 + one[1]);
            is("the other byte stays", x.put(2, 0, 7), 1032);
        }
    }

    static void promise09EachByteComesBack() {
        for (int v = -128; v < 128; v++) {
            ChainedMen x = new ChainedMen();
            x.text(0, 1);
            x.put(0, 0, v);
            is("put(0, 0, 0) over " + v, x.put(0, 0, 0), 1000 + v);
        }
    }

    static void promise09BadText() {
        Edge.bad("put(t, 0, 1)", (x, t) -> x.put(t, 0, 1), Edge.NO_TEXT);
    }

    static void promise09MissingIsNothing() {
        Edge.finds("put(1, 0, 1)", Edge::busy, Edge.NOTHING, x -> x.put(1, 0, 1));
    }

    static void promise09NoSuchPlaceIsBeyond() {
        Edge.findsFor("put(2, i, 1)", Edge::busy, Edge.BEYOND, (x, i) -> x.put(2, i, 1), -1, 3, 40, LEAST, GREATEST);
        Edge.finds("put(1, 0, 1), none there", x -> x.text(1, 0), Edge.BEYOND, x -> x.put(1, 0, 1));
        Edge.finds("put(1, 40, 1), full", x -> x.text(1, 40), Edge.BEYOND, x -> x.put(1, 40, 1));
    }

    static void promise09BadThenNothingThenBeyond() {
        Edge.bad("put(t, -1, 1)", (x, t) -> x.put(t, -1, 1), Edge.NO_TEXT);
        Edge.findsFor("put(3, i, 1)", Edge::busy, Edge.NOTHING, (x, i) -> x.put(3, i, 1), -1, 40, GREATEST);
    }

    static void promise09TellsNothingByAsked() {
        ChainedMen x = Edge.made(Edge::busy);
        x.put(2, 0, 99);
        is("asked()", x.asked(), -7);
    }
}
