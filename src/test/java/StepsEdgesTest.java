/** Promises 17 to 22, sentence by sentence: STEPS, undone, kept, gone on from. */
public final class StepsEdgesTest {
    private static final int STATE = Edge.STATE, BAD = Edge.BAD;

    public static void main(String[] args) {
        Edge.runAll(StepsEdgesTest.class, 17, 22);
    }

    private static void is(String what, long got, long want) {
        Edge.is(what, got, want);
    }

    /** Several STEPS (10 times the MAN and the WAY), of which the last one is looked at. */
    private static ChainedMen steps(String signs, int answer, int... steps) {
        ChainedMen x = Edge.made(Edge.yardOf(signs));
        for (int n = 0; n < steps.length; n++) {
            int got = x.step(steps[n] / 10, steps[n] % 10);
            if (n == steps.length - 1) {
                is("step " + steps[n] + " in " + signs, got, answer);
            }
        }
        return x;
    }

    private static void sixty(ChainedMen x) {
        Edge.yard(x, "m.=w");
        for (int n = 0; n < 60; n++) {
            x.step(0, n % 2 == 0 ? 1 : 3);
        }
    }

    /** CHAIN 0 is not OPEN and not KEPT: 3 far, but REACHES 2. MAN 2 has nothing to do with it. */
    private static void strained(ChainedMen x) {
        Edge.yard(x, "m.m./m...=w29");
        x.open(0, 1);
        x.step(1, 1);
        x.step(0, 1);
        x.open(0, 0);
        x.undo(1);
    }

    // ---- 17 step

    static void promise17EachWayInEachYard() {
        for (int width = 1; width <= 4; width++) {
            for (int lines = 1; lines <= 3; lines++) {
                for (int cell = 0; cell < width * lines; cell++) {
                    char[] signs = ((".".repeat(width) + "/").repeat(lines)).toCharArray();
                    signs[cell + cell / width] = 'm';
                    signs[signs.length - 1] = '=';
                    String yard = new String(signs) + "w";
                    steps(yard, cell >= width ? cell - width : STATE, 0);
                    steps(yard, cell % width < width - 1 ? cell + 1 : STATE, 1);
                    steps(yard, cell / width < lines - 1 ? cell + width : STATE, 2);
                    steps(yard, cell % width > 0 ? cell - 1 : STATE, 3);
                }
            }
        }
    }

    static void promise17NotIntoAWall() {
        for (int way = 0; way < 4; way++) {
            steps(".#./#m#/.#.=w", STATE, way);
        }
    }

    static void promise17NotWhereSomebodyIs() {
        for (char kind : "mtalds".toCharArray()) {
            steps("m" + kind + "=w9", STATE, 1);
            steps("" + kind + "m=w9", STATE, 13);
        }
    }

    static void promise17NotIntoTheWater() {
        for (int tide = 0; tide <= 3; tide++) {
            ChainedMen x = Edge.made(Edge.yardOf("m/./.=w"));
            x.tide(tide);
            is("down, TIDE " + tide, x.step(0, 2), tide <= 1 ? 1 : STATE);
            is("down again, TIDE " + tide, x.step(0, 2), tide == 0 ? 2 : STATE);
        }
    }

    static void promise17OutOfTheWaterButNotWithinIt() {
        ChainedMen x = Edge.made(Edge.yardOf(".../.../.m.=w"));
        x.tide(1);
        is("left", x.step(0, 3), STATE);
        is("right", x.step(0, 1), STATE);
        is("up", x.step(0, 0), 4);
        is("down", x.step(0, 2), STATE);
        x.tide(3);
        is("all in the WATER", x.can(0), 0);
    }

    static void promise17AsFarAsTheChainReaches() {
        steps("mm..=w1", STATE, 11);
        steps("mm..=w2", 2, 11);
        steps("mm..=w2", STATE, 11, 11);
        steps("mm..=w3", 3, 11, 11);
        steps("tm..=w1", 2, 11);
        steps("tm..=w1", STATE, 11, 11);
        steps("tt..=w1", 3, 11, 11);
        steps("ms..=w2", STATE, 11);
        steps("ms..=w3", 2, 11);
        steps("ss..=w3", STATE, 11);
        steps("ss..=w4", 2, 11);
        steps("mm/../..=w2", 3, 12);
        steps("mm/../..=w2", STATE, 12, 12);
    }

    static void promise17AllChainsMustBeKept() {
        steps("mmm./....=r113", STATE, 21);
        steps("mmm./....=r192", STATE, 21);
        steps("mmm./....=r193", 3, 21);
        steps("mmm./....=w19", 3, 21);
        steps("mmm./....=w91", STATE, 21);
        steps("mmmm/..../....=r1113", STATE, 32);
        steps("mmmm/..../....=r1123", STATE, 32);
        steps("mmmm/..../....=r1124", 7, 32);
    }

    static void promise17OpenChainsHoldNobody() {
        ChainedMen x = Edge.made(Edge.yardOf("mm..=w1"));
        x.open(0, 1);
        is("2 far", x.step(1, 1), 2);
        is("3 far", x.step(1, 1), 3);
    }

    static void promise17AChainThatIsNotKeptHoldsEverybody() {
        ChainedMen x = Edge.made(StepsEdgesTest::strained);
        is("it is 3 far", x.chain(0, 2) + x.asked(), 4);
        is("it REACHES 2", x.chain(0, 1) + x.asked(), 3);
        is("MAN 2", x.can(2), 0);
        is("MAN 0 can mend it", x.can(0), 2);
        is("MAN 1 can mend it", x.can(1), 8);
        x.open(0, 1);
        is("OPEN, it holds nobody", x.can(2), 2);
    }

    static void promise17AsleepAndDeadNeverStep() {
        for (int way = 0; way < 4; way++) {
            steps(".../.a./...=w", STATE, way);
            steps(".../.d./...=w", STATE, way);
        }
    }

    static void promise17LameAndShortGoRightAndLeftAlone() {
        int[] due = {STATE, 5, STATE, 3};
        for (int way = 0; way < 4; way++) {
            steps(".../.l./...=w", due[way], way);
            steps(".../.s./...=w", due[way], way);
        }
    }

    static void promise17MenAndStrongOnesGoEachWay() {
        int[] due = {1, 5, 7, 3};
        for (int way = 0; way < 4; way++) {
            steps(".../.m./...=w", due[way], way);
            steps(".../.t./...=w", due[way], way);
        }
    }

    static void promise17AStrongOneTakesASleeperToTheCellHeLeaves() {
        ChainedMen x = steps("at..=w1", 2, 11);
        is("as far as it REACHES: the sleeper stays", x.who(0), 0);
        x = steps("at..=w1", 3, 11, 11);
        is("farther: he goes to the CELL left", x.who(2), 0);
        is("not to be found where he was", x.who(0), Edge.NONE);
        x = steps("ta../....=w1", 4, 2);
        is("2 far: he stays", x.who(1), 1);
        x = steps("..../.ta./....=w1", 9, 2);
        is("2 far by a corner: he stays", x.who(6), 1);
        x = steps("..../.ta./....=w1", 8, 2, 3);
        is("3 far: he goes", x.who(9), 1);
    }

    static void promise17OnlyAsleepOnesAreTakenAlong() {
        for (char kind : "mld".toCharArray()) {
            steps(kind + "t..=w1", 2, 11);
            steps(kind + "t..=w1", STATE, 11, 11);
        }
        steps("st..=w2", 2, 11);
        steps("st..=w2", STATE, 11, 11);
        ChainedMen x = steps("tt../....=w1", 3, 11, 11);
        is("a STRONG one is not", x.step(1, 2), STATE);
    }

    static void promise17OnlyAStrongOneTakesAlong() {
        steps("am..=w2", 2, 11);
        steps("am..=w2", STATE, 11, 11);
        steps("al..=w2", STATE, 11, 11);
        steps("as..=w3", STATE, 11, 11);
    }

    static void promise17NotByAnOpenChain() {
        ChainedMen x = Edge.made(Edge.yardOf("at..=w1"));
        x.open(0, 1);
        x.step(1, 1);
        is("he steps", x.step(1, 1), 3);
        is("alone", x.who(0), 0);
    }

    static void promise17OnlyOneCanBeTakenAlong() {
        steps("ata/.../...=w11", 4, 12);
        steps("ata/.../...=w11", STATE, 12, 12);
        ChainedMen x = steps("ata/.../...=w12", 7, 12, 12);
        is("the first alone", x.who(4), 0);
        is("the second stays", x.who(2), 2);
        x = steps("ata/.../...=w21", 7, 12, 12);
        is("the second alone", x.who(4), 2);
        is("the first stays", x.who(0), 0);
        x = steps("ata/.../...=w22", 7, 12, 12);
        is("nobody", x.who(4), Edge.NONE);
        Edge.refused("if two would have to, nobody moves", y -> {
            Edge.yard(y, "ata/.../...=w11");
            y.step(1, 2);
        }, STATE, y -> y.step(1, 2));
    }

    static void promise17ADeadOneIsNoSecondOne() {
        ChainedMen x = steps("atd/.../...=w12", 7, 12, 12);
        is("the sleeper is taken along", x.who(4), 0);
        steps("atd/.../...=w11", STATE, 12, 12);
    }

    static void promise17NoneIsTakenIntoTheWater() {
        int[] due = {1, 1, STATE, STATE};
        for (int tide = 0; tide <= 3; tide++) {
            ChainedMen x = Edge.made(Edge.yardOf("../.t/a.=w1"));
            x.tide(tide);
            is("TIDE " + tide, x.step(0, 0), due[tide]);
            is("where the sleeper is, TIDE " + tide, x.who(3), tide <= 1 ? 1 : 0);
        }
        ChainedMen y = Edge.made(Edge.yardOf("../.t/a.=w2"));
        y.tide(2);
        is("if none has to be, he comes out", y.step(0, 0), 1);
    }

    static void promise17ASleeperComesOutOfTheWater() {
        ChainedMen x = Edge.made(Edge.yardOf("..t/a../...=w2"));
        x.tide(2);
        is("3 far", x.step(0, 3), 1);
        x = Edge.made(Edge.yardOf(".t./a../...=w1"));
        x.tide(2);
        is("the sleeper is in the WATER", x.step(0, 1), 2);
        is("and comes out", x.who(1), 1);
    }

    static void promise17AllChainsAreKeptWithTheOneTakenAlong() {
        steps("mat./....=w11", 3, 21);
        steps("mat./....=w11", STATE, 21, 22);
        steps("mat./....=w21", STATE, 21, 22);
        ChainedMen x = steps("mat./....=w31", 7, 21, 22);
        is("with a longer one he is", x.who(3), 1);
        steps("tat./....=w11", STATE, 21, 22);
        x = steps("tat./....=w21", 7, 21, 22);
        is("between two STRONG ones", x.who(3), 1);
    }

    static void promise17OnlyThoseChainedToHim() {
        steps("aat./....=w11", STATE, 21, 22);
        ChainedMen x = steps("aat./....=w31", 7, 21, 22);
        is("the one chained to him", x.who(3), 1);
        is("not the one chained to that one", x.who(0), 0);
    }

    static void promise17ByTheLastChainOfARing() {
        ChainedMen x = steps("tma/.../...=r421", 3, 2);
        is("the last MAN is taken along by MAN 0", x.who(0), 2);
        x = steps("amt/.../...=r421", 5, 22);
        is("MAN 0 is taken along by the last MAN", x.who(2), 0);
        steps("tma/.../...=w42", 3, 2);
    }

    static void promise17HoweverFarTheSleeperIs() {
        ChainedMen x = Edge.made(Edge.yardOf("at../....=w1"));
        x.open(0, 1);
        x.step(1, 1);
        x.step(1, 1);
        x.step(1, 3);
        x.open(0, 0);
        x.undo(2);
        is("3 far, REACHES 2", x.chain(0, 2) + x.asked(), 4);
        x.keep(0);
        is("nearer: none is taken along", x.step(1, 3), 2);
        is("so he stays", x.who(0), 0);
        x.on(0);
        is("farther", x.step(1, 2), 7);
        is("he goes to the CELL left", x.who(3), 0);
    }

    static void promise17BadManBadWay() {
        Edge.bad("step(i, 0)", (x, i) -> x.step(i, 0), -1, 4, Edge.LEAST, Edge.GREATEST);
        Edge.bad("step(0, way)", (x, way) -> x.step(0, way), -1, 4, Edge.LEAST, Edge.GREATEST);
        Edge.bad("step(1, way), BAD ahead of STATE", (x, way) -> x.step(1, way), -1, 4);
        Edge.refused("step(1, 0), one alone", Edge.yardOf("m.=w"), BAD, x -> x.step(1, 0));
        Edge.refused("step(0, 0), new", Edge::empty, BAD, x -> x.step(0, 0));
        Edge.refused("step(0, 0), nobody", Edge::nobody, BAD, x -> x.step(0, 0));
    }

    static void promise17WhoCannotIsState() {
        for (int way = 0; way < 4; way++) {
            int by = way;
            Edge.refused("step(1, " + way + "), asleep", Edge::busy, STATE, x -> x.step(1, by));
            Edge.refused("step(2, " + way + "), strained", StepsEdgesTest::strained, STATE, x -> x.step(2, by));
        }
    }

    static void promise17The60thIsTakenThe61stIsFull() {
        ChainedMen x = Edge.made(StepsEdgesTest::sixty);
        is("60 STEPS", x.count(2), 60);
        is("undo(59)", x.undo(59), 1);
        is("the 60th", x.step(0, 3), 0);
        Edge.refused("the 61st", StepsEdgesTest::sixty, Edge.FULL, y -> y.step(0, 1));
    }

    static void promise17FullIsLast() {
        Edge.refused("STATE ahead of FULL", StepsEdgesTest::sixty, STATE, x -> x.step(0, 3));
        Edge.refused("BAD ahead of FULL", StepsEdgesTest::sixty, BAD, x -> x.step(0, 4));
        Edge.refused("BAD ahead of FULL, too", StepsEdgesTest::sixty, BAD, x -> x.step(1, 1));
    }

    // ---- 18 can

    static void promise18AsStepAnswers() {
        Edge.Scene[] scenes = {Edge::busy, StepsEdgesTest::strained, Edge.yardOf("at../....=w1"), Edge.yardOf("ata/.../...=w11"),
            Edge.yardOf("l.s./.#.t/...a=r9959"), Edge.yardOf("../.t/a.=w1")};
        for (Edge.Scene scene : scenes) {
            for (int i = 0; i < Edge.made(scene).count(0); i++) {
                int ways = 0;
                for (int way = 0; way < 4; way++) {
                    ways |= Edge.made(scene).step(i, way) >= 0 ? 1 << way : 0;
                }
                int man = i;
                Edge.aside("can(" + i + ")", scene, ways, x -> x.can(man));
            }
        }
    }

    static void promise18EachWayHasItsBit() {
        String[] yards = {"./m=w", "m.=w", "m/.=w", ".m=w", ".../.m./...=w", "m=w"};
        int[] due = {1, 2, 4, 8, 15, 0};
        for (int n = 0; n < yards.length; n++) {
            is("can(0) in " + yards[n], Edge.made(Edge.yardOf(yards[n])).can(0), due[n]);
        }
    }

    static void promise18BadMan() {
        Edge.bad("can(i)", ChainedMen::can, -1, 4, Edge.LEAST, Edge.GREATEST);
        Edge.refused("can(0), new", Edge::empty, BAD, x -> x.can(0));
        Edge.refused("can(0), nobody", Edge::nobody, BAD, x -> x.can(0));
    }

    static void promise18With60StepsToo() {
        Edge.aside("can(0)", StepsEdgesTest::sixty, 2, x -> x.can(0));
    }

    // ---- 19 undo

    static void promise19FromEachNumberOn() {
        int[] ways = {1, 1, 2, 3, 2, 1};
        int[] cells = {0, 1, 2, 5, 4, 7, 8};
        for (int n = 0; n <= 6; n++) {
            ChainedMen x = Edge.made(Edge.yardOf("m../.../...=w"));
            for (int way : ways) {
                x.step(0, way);
            }
            is("undo(" + n + ")", x.undo(n), 6 - n);
            is("STEPS left", x.count(2), n);
            is("where he is", x.who(cells[n]), 0);
            is("how often he STEPPED", x.man(0, 3) + x.asked(), n + 1);
        }
    }

    static void promise19BoundsOfTheNumber() {
        Edge.bad("undo(n)", ChainedMen::undo, -1, 6, 60, Edge.LEAST, Edge.GREATEST);
        Edge.aside("undo(5), none from there on", Edge::busy, 0, x -> x.undo(5));
        Edge.aside("undo(0), new", Edge::empty, 0, x -> x.undo(0));
        Edge.refused("undo(1), new", Edge::empty, BAD, x -> x.undo(1));
        Edge.refused("undo(61), full", StepsEdgesTest::sixty, BAD, x -> x.undo(61));
        Edge.aside("undo(60), full", StepsEdgesTest::sixty, 0, x -> x.undo(60));
        ChainedMen x = Edge.made(StepsEdgesTest::sixty);
        is("undo(0), full", x.undo(0), 60);
        is("none left", x.undo(1), BAD);
        is("room again", x.step(0, 1), 1);
    }

    static void promise19TideAndChainsStay() {
        ChainedMen x = Edge.made(Edge.yardOf("mm./...=w9"));
        x.step(1, 1);
        x.tide(1);
        x.open(0, 1);
        x.step(0, 1);
        x.tide(2);
        is("undo(0)", x.undo(0), 2);
        is("TIDE", x.tide(2), 2);
        is("CHAIN 0", x.chain(0, 3) + x.asked(), 2);
        x.step(0, 0);
        x.open(0, 0);
        is("undo(0)", x.undo(0), 0);
        is("CHAIN 0 then", x.chain(0, 3) + x.asked(), 1);
    }

    static void promise19WhateverIsKept() {
        ChainedMen x = Edge.made(StepsEdgesTest::strained);
        is("not OPEN", x.chain(0, 3) + x.asked(), 1);
        is("not KEPT", x.chain(0, 2) + x.asked(), 4);
        is("undo(0)", x.undo(0), 1);
        is("KEPT again", x.chain(0, 2) + x.asked(), 3);
    }

    static void promise19BackIntoTheWater() {
        ChainedMen x = Edge.made(Edge.yardOf("./m=w"));
        x.step(0, 0);
        x.tide(1);
        is("undo(0)", x.undo(0), 1);
        is("in the WATER", x.who(1), 0);
    }

    static void promise19WhoWasTakenAlongIsBack() {
        ChainedMen x = steps("at..=w1", 3, 11, 11);
        is("undo(1)", x.undo(1), 1);
        is("the sleeper", x.who(0), 0);
        is("the STRONG one", x.who(2), 1);
        is("undo(0)", x.undo(0), 1);
        is("as at first", x.who(1), 1);
    }

    // ---- 20 who

    static void promise20WhoStandsThere() {
        int[] due = {Edge.NONE, 0, Edge.NONE, 1, 2, Edge.NONE};
        Edge.Scene scene = Edge.yardOf(".m#/as.=w99");
        for (int cell = 0; cell < 6; cell++) {
            int c = cell;
            Edge.aside("who(" + cell + ")", scene, due[cell], x -> x.who(c));
        }
        Edge.aside("who(11), the last one", Edge.yardOf("..../..../...m=w"), 0, x -> x.who(11));
        Edge.aside("who(0), nobody", Edge::nobody, Edge.NONE, x -> x.who(0));
        Edge.aside("who(4), a wall", Edge::nobody, Edge.NONE, x -> x.who(4));
    }

    static void promise20BadCell() {
        Edge.bad("who(cell)", ChainedMen::who, -1, -9, 12, 13, Edge.LEAST, Edge.GREATEST);
        Edge.refused("who(6), of six", Edge::nobody, BAD, x -> x.who(6));
        Edge.refused("who(1), of one", Edge.yardOf("m=w"), BAD, x -> x.who(1));
        Edge.refused("who(0), new", Edge::empty, BAD, x -> x.who(0));
    }

    // ---- 21 keep

    static void promise21PlacesAre0To2() {
        ChainedMen x = Edge.made(Edge.yardOf("m.=w"));
        for (int k = 0; k <= 2; k++) {
            is("keep(" + k + ")", x.keep(k), k);
            is("kept YARDS", x.count(9), k + 1);
            x.step(0, k % 2 == 0 ? 1 : 3);
        }
        for (int k = 2; k >= 0; k--) {
            is("on(" + k + ")", x.on(k), k);
        }
        Edge.bad("keep(k)", ChainedMen::keep, -1, 3, Edge.LEAST, Edge.GREATEST);
    }

    static void promise21WithoutMenState() {
        for (int k = 0; k <= 2; k++) {
            int place = k;
            Edge.refused("keep(" + k + "), new", Edge::empty, STATE, x -> x.keep(place));
            Edge.refused("keep(" + k + "), nobody", Edge::nobody, STATE, x -> x.keep(place));
        }
        Edge.refused("BAD ahead of STATE", Edge::empty, BAD, x -> x.keep(3));
        Edge.refused("BAD ahead of STATE, too", Edge::nobody, BAD, x -> x.keep(-1));
    }

    static void promise21TellsHowManySteps() {
        ChainedMen x = Edge.made(StepsEdgesTest::sixty);
        is("60", x.keep(1), 60);
        x.undo(7);
        is("7, over it", x.keep(1), 7);
        is("one is kept", x.count(9), 1);
        is("on(1)", x.on(1), 7);
        x.undo(0);
        is("none", x.keep(1), 0);
    }

    static void promise21WhatIsKeptStaysAsItWas() {
        ChainedMen x = Edge.made(Edge.yardOf("m.m/...=w9"));
        x.step(0, 2);
        x.step(0, 1);
        x.keep(0);
        x.undo(0);
        x.step(1, 2);
        x.step(1, 3);
        x.step(0, 1);
        is("on(0)", x.on(0), 2);
        is("MAN 0", x.who(4), 0);
        is("MAN 1", x.who(2), 1);
        is("undo(1)", x.undo(1), 1);
        is("MAN 0 ahead of it", x.who(3), 0);
        x.step(0, 0);
        is("on(0) again", x.on(0), 2);
        is("undo(0)", x.undo(0), 2);
        is("MAN 0 at first", x.who(0), 0);
    }

    // ---- 22 on

    static void promise22StandStepsTideChainsAreAsTheyWere() {
        ChainedMen x = Edge.made(Edge::busy);
        x.undo(0);
        x.tide(3);
        x.open(1, 0);
        x.open(3, 1);
        is("on(2)", x.on(2), 4);
        int[] cells = {8, 1, 4, 9};
        for (int i = 0; i < 4; i++) {
            is("MAN " + i, x.who(cells[i]), i);
        }
        is("how often MAN 0 STEPPED", x.man(0, 3) + x.asked(), 3);
        is("how often MAN 2 STEPPED", x.man(2, 3) + x.asked(), 2);
        is("CHAIN 1", x.chain(1, 3) + x.asked(), 2);
        is("CHAIN 3", x.chain(3, 3) + x.asked(), 1);
        is("TIDE", x.tide(1), 1);
        is("on(0)", x.on(0), 2);
        is("TIDE then", x.tide(0), 0);
        is("no CHAIN is OPEN", x.count(4), 0);
    }

    static void promise22StepsAreAsTheyWereWhateverWasDoneThen() {
        ChainedMen x = Edge.made(Edge.yardOf("m../.../...=w"));
        int[] first = {1, 1, 2, 2};
        int[] then = {2, 2, 1, 1, 0, 0};
        for (int way : first) {
            x.step(0, way);
        }
        x.keep(1);
        long kept = x.digest();
        x.undo(0);
        for (int way : then) {
            x.step(0, way);
        }
        is("on(1)", x.on(1), 4);
        is("all is as it was", x.digest(), kept);
        int[] cells = {0, 1, 2, 5, 8};
        for (int n = 3; n >= 0; n--) {
            is("undo(" + n + ")", x.undo(n), 1);
            is("where he was", x.who(cells[n]), 0);
        }
    }

    static void promise22TheLastOf60StepsToo() {
        ChainedMen x = Edge.made(Edge.yardOf("m../...=w"));
        for (int n = 0; n < 58; n++) {
            x.step(0, n % 2 == 0 ? 1 : 3);
        }
        x.step(0, 1);
        x.step(0, 1);
        x.keep(0);
        long kept = x.digest();
        x.undo(58);
        x.step(0, 2);
        x.step(0, 0);
        is("on(0)", x.on(0), 60);
        is("all is as it was", x.digest(), kept);
        is("undo(59)", x.undo(59), 1);
        is("where he was", x.who(1), 0);
    }

    static void promise22TheyStepAsThenByTideAndChains() {
        ChainedMen x = Edge.made(Edge.yardOf("m.m./....=w2"));
        x.keep(0);
        x.tide(1);
        x.open(0, 1);
        x.keep(1);
        for (int n = 0; n < 2; n++) {
            x.on(0);
            is("no WATER, chained", x.can(1), 8);
            is("so he goes", x.step(0, 1), 1);
            is("down", x.step(0, 2), 5);
            is("where he can be", x.where(0), 255);
            x.on(1);
            is("WATER, not chained", x.can(1), 2 + 8);
            is("not down", x.step(1, 2), STATE);
            is("where he can be", x.where(0), 7);
            is("to how many STANDS", x.reach(), 6);
        }
    }

    static void promise22NothingElseChanges() {
        ChainedMen x = Edge.made(Edge::busy);
        x.on(0);
        is("QUARRELS", x.count(8), 2);
        is("kept YARDS", x.count(9), 2);
        is("ROWS", x.count(6), 3);
        is("TEXTS", x.count(7), 2);
        is("asked()", x.asked(), -7);
        is("findings", x.findings(1), 1);
    }

    static void promise22BadPlace() {
        Edge.bad("on(k)", ChainedMen::on, -1, 3, Edge.LEAST, Edge.GREATEST);
        Edge.refused("on(3), new", Edge::empty, BAD, x -> x.on(3));
    }

    static void promise22MissingIsNothing() {
        Edge.finds("on(1)", Edge::busy, Edge.NOTHING, x -> x.on(1));
        for (int k = 0; k <= 2; k++) {
            int place = k;
            Edge.finds("on(" + k + "), new", Edge::empty, Edge.NOTHING, x -> x.on(place));
            Edge.finds("on(" + k + "), nobody", Edge::nobody, Edge.NOTHING, x -> x.on(place));
            Edge.finds("on(" + k + "), a new YARD", x -> {
                Edge.busy(x);
                x.yard(0);
            }, Edge.NOTHING, x -> x.on(place));
        }
    }

    static void promise22FromFullAndToFull() {
        ChainedMen x = Edge.made(StepsEdgesTest::sixty);
        x.keep(0);
        x.undo(58);
        x.keep(1);
        is("on(0)", x.on(0), 60);
        is("FULL", x.step(0, 1), Edge.FULL);
        is("on(1)", x.on(1), 58);
        is("room", x.step(0, 1), 1);
    }
}
