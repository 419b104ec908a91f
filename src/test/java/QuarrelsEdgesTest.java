/** Promises 36 to 39, sentence by sentence: QUARRELS, Easter, LOTS. */
public final class QuarrelsEdgesTest {
    private static final int STATE = Edge.STATE, BAD = Edge.BAD, FULL = Edge.FULL;

    public static void main(String[] args) {
        Edge.runAll(QuarrelsEdgesTest.class, 36, 39);
    }

    private static void is(String what, long got, long want) {
        Edge.is(what, got, want);
    }

    private static void eight(ChainedMen x) {
        Edge.yard(x, "mmm./....=w99");
        for (int n = 0; n < 8; n++) {
            x.quarrel(n % 3, (n + 1) % 3);
        }
    }

    /** As many STEPS of one MAN in two CELLS. */
    private static Edge.Scene stepped(int many) {
        return x -> {
            Edge.yard(x, "m.=w");
            for (int n = 0; n < many; n++) {
                x.step(0, n % 2 == 0 ? 1 : 3);
            }
        };
    }

    // ---- 36 quarrel

    static void promise36NumbersAre0To7() {
        ChainedMen x = Edge.made(Edge.yardOf("mm=w1"));
        for (int n = 0; n < 8; n++) {
            is("the next", x.quarrel(n % 2, 1 - n % 2), n);
            is("how many", x.count(8), n + 1);
        }
    }

    static void promise36TheNinthIsFull() {
        Edge.refused("quarrel(0, 1)", QuarrelsEdgesTest::eight, FULL, x -> x.quarrel(0, 1));
        ChainedMen x = Edge.made(QuarrelsEdgesTest::eight);
        x.peace(7);
        is("room for one", x.quarrel(2, 1), 7);
        is("and no more", x.quarrel(2, 1), FULL);
    }

    static void promise36BadIsAheadOfFull() {
        Edge.refused("one alone", QuarrelsEdgesTest::eight, BAD, x -> x.quarrel(1, 1));
        Edge.refused("no MAN", QuarrelsEdgesTest::eight, BAD, x -> x.quarrel(0, 3));
        Edge.refused("no MAN, the first", QuarrelsEdgesTest::eight, BAD, x -> x.quarrel(-1, 0));
    }

    static void promise36BadMenAndOneAlone() {
        Edge.bad("quarrel(i, 0)", (x, i) -> x.quarrel(i, 0), -1, 4, Edge.LEAST, Edge.GREATEST);
        Edge.bad("quarrel(0, j)", (x, j) -> x.quarrel(0, j), -1, 4, Edge.LEAST, Edge.GREATEST);
        Edge.bad("quarrel(i, i)", (x, i) -> x.quarrel(i, i), 0, 1, 2, 3, 4, -1);
        Edge.refused("quarrel(0, 1), one MAN", Edge.yardOf("m=w"), BAD, x -> x.quarrel(0, 1));
        Edge.refused("quarrel(0, 1), nobody", Edge::nobody, BAD, x -> x.quarrel(0, 1));
        Edge.refused("quarrel(0, 1), new", Edge::empty, BAD, x -> x.quarrel(0, 1));
        ChainedMen x = Edge.made(Edge::busy);
        is("the last two", x.quarrel(3, 2), 2);
        is("not chained to one another", x.quarrel(0, 2), 3);
        is("dead, asleep", Edge.made(Edge.yardOf("da=w1")).quarrel(0, 1), 0);
    }

    // ---- 37 peace

    static void promise37FromEachNumberOn() {
        for (int n = 0; n <= 8; n++) {
            ChainedMen x = Edge.made(QuarrelsEdgesTest::eight);
            is("peace(" + n + ")", x.peace(n), 8 - n);
            is("left", x.count(8), n);
            is("the next", x.quarrel(0, 1), n < 8 ? n : FULL);
        }
    }

    static void promise37BoundsOfTheNumber() {
        Edge.bad("peace(n)", ChainedMen::peace, -1, 3, 8, Edge.LEAST, Edge.GREATEST);
        Edge.aside("peace(2), none from there on", Edge::busy, 0, x -> x.peace(2));
        Edge.aside("peace(8), none from there on", QuarrelsEdgesTest::eight, 0, x -> x.peace(8));
        Edge.refused("peace(9)", QuarrelsEdgesTest::eight, BAD, x -> x.peace(9));
        Edge.aside("peace(0), new", Edge::empty, 0, x -> x.peace(0));
        Edge.refused("peace(1), new", Edge::empty, BAD, x -> x.peace(1));
    }

    static void promise37TheOnesAheadStay() {
        ChainedMen x = Edge.made(Edge.yardOf("mmm=w99"));
        x.quarrel(0, 1);
        x.quarrel(1, 2);
        x.peace(1);
        is("one is left", x.easter(0), 0);
        is("the first one", Due.holds(x, 0, 0, 2, 1), 1);
    }

    // ---- 38 easter

    /** QUARRELS are told by 10 times the one and the other. */
    private static void easter(String signs, int fewest, int[] order, int... quarrels) {
        ChainedMen x = Edge.made(Edge.yardOf(signs));
        for (int q : quarrels) {
            x.quarrel(q / 10, q % 10);
        }
        x.row(5, 7);
        x.lay(5, 6, 9);
        String what = "easter in " + signs + java.util.Arrays.toString(quarrels);
        is(what, x.easter(5), fewest);
        is(what + ", asked() is not told", x.asked(), 0);
        is(what + ", the order", Due.holds(x, 5, order), 1);
    }

    private static int[] of(int... men) {
        return men;
    }

    static void promise38TheFirstOrderOfAlikeOnes() {
        easter("m=w", 0, of(0));
        easter("mm=w1", 0, of(0, 1));
        easter("mmm=w11", 0, of(0, 1, 2));
        easter("mmmm=w111", 0, of(0, 1, 2, 3));
        easter("mmmm=r1113", 0, of(0, 1, 2, 3));
        easter("mmm=w11", 0, of(0, 1, 2), 2);
        easter("mmm=w11", 2, of(0, 1, 2), 1, 12, 20);
    }

    static void promise38TheFewest() {
        easter("mmm=w11", 0, of(0, 2, 1), 1);
        easter("mmm=w11", 0, of(0, 2, 1), 10);
        easter("mmm=w11", 0, of(1, 0, 2), 12);
        easter("mmmm=w111", 0, of(0, 2, 1, 3), 1, 23);
        easter("mmmm=w111", 0, of(1, 3, 0, 2), 1, 12, 23);
        easter("mmmm=r1113", 0, of(0, 2, 1, 3), 1, 23);
        easter("mmmm=r1113", 0, of(0, 1, 2, 3), 2, 13);
    }

    static void promise38TwiceToldTwiceCounted() {
        easter("mm=w1", 1, of(0, 1), 1);
        easter("mm=w1", 2, of(0, 1), 1, 1);
        easter("mm=w1", 2, of(0, 1), 1, 10);
        easter("mm=w1", 8, of(0, 1), 1, 1, 1, 1, 10, 10, 10, 10);
        easter("mmm=w11", 3, of(0, 1, 2), 1, 1, 12, 20, 20);
        easter("mmm=w11", 2, of(0, 2, 1), 1, 1, 12, 20);
        easter("mmm=w11", 2, of(1, 0, 2), 12, 21, 1, 20, 12);
    }

    static void promise38AWholeRingIsChained() {
        easter("mmm=r112", 1, of(0, 1, 2), 2);
        easter("mmm=w11", 0, of(0, 1, 2), 2);
        easter("mmm=r112", 3, of(0, 1, 2), 1, 12, 20);
        easter("mmmm=r1113", 4, of(0, 1, 2, 3), 1, 2, 3, 12, 13, 23);
        easter("mmmm=w111", 3, of(0, 1, 2, 3), 1, 2, 3, 12, 13, 23);
        easter("mmmm=r1113", 1, of(0, 1, 3, 2), 1, 3);
    }

    static void promise38ARingOfTwoHasOneChain() {
        easter("mm=r1", 1, of(0, 1), 1);
        easter("mm=r1", 2, of(0, 1), 1, 10);
    }

    static void promise38OpenChainsAreChainedAnew() {
        ChainedMen x = Edge.made(Edge.yardOf("mm=w1"));
        x.quarrel(0, 1);
        x.open(0, 1);
        is("easter(0)", x.easter(0), 1);
        is("it stays OPEN", x.count(4), 1);
    }

    static void promise38NothingButTheRowChanges() {
        Edge.Scene scene = x -> {
            Edge.busy(x);
            Due.fill(x, 0, 0, 2, 1, 3);
        };
        Edge.aside("easter(0)", scene, 0, x -> x.easter(0));
    }

    static void promise38AMissingRowComesToBe() {
        for (int r = 0; r < 6; r++) {
            ChainedMen x = Edge.made(Edge.yardOf("mm=w1"));
            is("easter(" + r + ")", x.easter(r), 0);
            is("came", Due.holds(x, r, 0, 1), 1);
            is("one ROW", x.count(6), 1);
        }
    }

    static void promise38BadThenState() {
        Edge.bad("easter(r)", ChainedMen::easter, Edge.NO_ROW);
        Edge.refused("BAD ahead of STATE", Edge::empty, BAD, x -> x.easter(6));
        Edge.refused("STATE", Edge::empty, STATE, x -> x.easter(0));
        Edge.refused("STATE, nobody", Edge::nobody, STATE, x -> x.easter(0));
    }

    // ---- 39 lots

    /** 48271: the first number by seed 1; it by 64 is 754, modulo 4 that is 2. */
    static void promise39TheFirstNumberComesFromTheSeed() {
        ChainedMen x = Edge.made(Edge.yardOf("m/.=w"));
        is("down", x.lots(1, 1), 1);
        is("he went", x.who(1), 0);
        is("not right", Edge.made(Edge.yardOf("m.=w")).lots(1, 1), 0);
        is("not up", Edge.made(Edge.yardOf("./m=w")).lots(1, 1), 0);
        is("not left", Edge.made(Edge.yardOf(".m=w")).lots(1, 1), 0);
    }

    /** 182605794: the second one; it by 64 is 2853215, modulo 4 that is 3. */
    static void promise39TheSecondComesFromTheFirst() {
        ChainedMen x = Edge.made(Edge.yardOf(".m/..=w"));
        is("down and left", x.lots(2, 1), 2);
        is("he went", x.who(2), 0);
        is("as far as that", Edge.made(Edge.yardOf(".m=w")).lots(2, 1), 1);
    }

    /** 48271 modulo 2 is 1, modulo 3 is 1, modulo 4 is 3. */
    static void promise39ModuloHowManyMenIsWho() {
        String[] yards = {"mm/..=w9", "mmm/...=w99", "mmmm/....=w999"};
        int[] who = {1, 1, 3};
        for (int n = 0; n < 3; n++) {
            ChainedMen x = Edge.made(Edge.yardOf(yards[n]));
            is("lots(1, 1)", x.lots(1, 1), 1);
            is("who went down", x.who(n + 2 + who[n]), who[n]);
        }
    }

    /** 2147435376: the first number by the greatest seed; it by 64 is 33553677, modulo 4 that is 1. */
    static void promise39TheGreatestSeed() {
        ChainedMen x = Edge.made(Edge.yardOf("m.=w"));
        is("right", x.lots(1, 2147483646), 1);
        is("he went", x.who(1), 0);
    }

    static void promise39NumbersAre1To60() {
        is("lots(60, 1)", Edge.made(Edge.yardOf("a=w")).lots(60, 1), 0);
        is("lots(1, 1)", Edge.made(Edge.yardOf("a=w")).lots(1, 1), 0);
        Edge.bad("lots(n, 1)", (x, n) -> x.lots(n, 1), 0, -1, 61, Edge.LEAST, Edge.GREATEST);
    }

    static void promise39SeedsAre1To2147483646() {
        Edge.bad("lots(1, seed)", (x, seed) -> x.lots(1, seed), 0, -1, Edge.LEAST, Edge.GREATEST);
    }

    static void promise39WhoCannotDoesNot() {
        for (String signs : new String[] {"a.=w", "d.=w", "m=w", "m#=w"}) {
            Edge.aside("lots(60, 5) in " + signs, Edge.yardOf(signs), 0, x -> x.lots(60, 5));
        }
    }

    static void promise39StepsAreAsByStep() {
        ChainedMen x = Edge.made(Edge.yardOf("at../....=w1"));
        ChainedMen y = Edge.made(Edge.yardOf("at../....=w1"));
        int many = x.lots(60, 31337);
        is("how many", x.count(2), many);
        long lot = 31337;
        for (int n = 0; n < 60; n++) {
            lot = lot * 48271 % 2147483647;
            y.step((int) (lot % 2), (int) (lot / 64 % 4));
        }
        is("the same", x.digest(), y.digest());
        for (int n = many; n >= 0; n--) {
            x.undo(n);
            y.undo(n);
            is("the same, undone to " + n, x.digest(), y.digest());
        }
    }

    static void promise39TellsOnlyTheNewOnes() {
        ChainedMen x = Edge.made(stepped(3));
        int more = x.lots(57, 5);
        is("all", x.count(2), 3 + more);
    }

    static void promise39FullIfThereWouldBeMoreThan60() {
        for (int steps : new int[] {0, 1, 30, 59}) {
            ChainedMen x = Edge.made(stepped(steps));
            is("just 60 from " + steps, x.lots(60 - steps, 9) >= 0 ? 1 : 0, 1);
            if (steps > 0) {
                Edge.refused("61 from " + steps, stepped(steps), FULL, y -> y.lots(61 - steps, 9));
            }
        }
        Edge.refused("one more than 60", stepped(60), FULL, x -> x.lots(1, 9));
        Edge.refused("the most more than 60", stepped(60), FULL, x -> x.lots(60, 9));
    }

    static void promise39FullEvenIfNobodyCould() {
        Edge.refused("in the WATER", x -> {
            stepped(60).set(x);
            x.tide(3);
        }, FULL, x -> x.lots(1, 9));
    }

    static void promise39BadThenStateThenFull() {
        Edge.refused("BAD ahead of STATE, n", Edge::empty, BAD, x -> x.lots(0, 1));
        Edge.refused("BAD ahead of STATE, seed", Edge::empty, BAD, x -> x.lots(1, 0));
        Edge.refused("STATE", Edge::empty, STATE, x -> x.lots(60, 1));
        Edge.refused("STATE, nobody", Edge::nobody, STATE, x -> x.lots(1, 2147483646));
        Edge.refused("BAD ahead of FULL, n", stepped(60), BAD, x -> x.lots(61, 1));
        Edge.refused("BAD ahead of FULL, seed", stepped(60), BAD, x -> x.lots(60, 0));
    }

    static void promise39TellsNothingByAsked() {
        ChainedMen x = Edge.made(Edge::busy);
        x.lots(5, 5);
        is("asked()", x.asked(), -7);
    }
}
