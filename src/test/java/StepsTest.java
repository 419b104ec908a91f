/** Promises 17 to 22: STEPS, undone, kept, gone on from. */
public final class StepsTest {
    private static final Due due = new Due("StepsTest");

    public static void main(String[] args) {
        plainSteps();
        kinds();
        takingAlong();
        takingAlongInWater();
        fullLast();
        undone();
        whoIsThere();
        kept();
        due.end();
    }

    private static void plainSteps() {
        ChainedMen x = Due.yard("m#./..m=w4");
        due.is("a wall", x.step(0, 1), -4);
        due.is("no cell, up", x.step(0, 0), -4);
        due.is("no cell, left", x.step(0, 3), -4);
        due.is("no cell, right", x.step(1, 1), -4);
        due.is("no cell, down", x.step(1, 2), -4);
        due.is("down", x.step(0, 2), 3);
        due.is("right", x.step(0, 1), 4);
        due.is("somebody there", x.step(0, 1), -4);
        due.is("a wall from below", x.step(0, 0), -4);
        due.is("left", x.step(0, 3), 3);
        due.is("up", x.step(1, 0), 2);
        x.tide(1);
        due.is("the water", x.step(1, 2), -4);
        due.is("up from the water", x.step(0, 0), 0);
        due.is("step(2, 0)", x.step(2, 0), -1);
        due.is("step(-1, 0)", x.step(-1, 0), -1);
        due.is("step(0, 4)", x.step(0, 4), -1);
        due.is("step(0, -1)", x.step(0, -1), -1);
        due.is("how many", x.count(2), 5);
        due.is("can(2)", x.can(2), -1);
        due.is("can(-1)", x.can(-1), -1);
        ChainedMen y = Due.yard("m.m.=w2");
        due.is("too far", y.step(1, 1), -4);
        due.is("nearer", y.can(0), 2);
        due.is("nearer, the other", y.can(1), 8);
        y.open(0, 1);
        due.is("not chained", y.can(1), 10);
        due.is("in the middle", Due.yard(".../.m./...=w").can(0), 15);
    }

    private static void kinds() {
        due.is("asleep", Due.yard(".../.a./...=w").can(0), 0);
        due.is("dead", Due.yard(".../.d./...=w").can(0), 0);
        due.is("lame", Due.yard(".../.l./...=w").can(0), 10);
        due.is("short", Due.yard(".../.s./...=w").can(0), 10);
        due.is("strong", Due.yard(".../.t./...=w").can(0), 15);
        due.is("a lame one down", Due.yard(".../.l./...=w").step(0, 2), -4);
        due.is("a plain one drags nobody", Due.yard("am..=w1").can(1), 0);
    }

    private static void takingAlong() {
        ChainedMen x = Due.yard("at..=w1");
        due.is("as far as it reaches", x.step(1, 1), 2);
        due.is("the sleeper stays", x.who(0), 0);
        due.is("farther", x.step(1, 1), 3);
        due.is("the sleeper came to what was left", x.who(2), 0);
        due.is("and is nowhere else", x.who(0), -9);
        due.tells("he did not step himself", x, x.man(0, 3), 0);
        due.tells("the strong one did", x, x.man(1, 3), 2);
        due.is("undone with him", x.undo(1), 1);
        due.is("the sleeper is back", x.who(0), 0);
        x.open(0, 1);
        due.is("not by an open chain", x.step(1, 1), 3);
        due.is("so he stays", x.who(0), 0);
        ChainedMen dead = Due.yard("dt..=w1");
        due.is("with a dead one", dead.step(1, 1), 2);
        due.is("a dead one is not taken along", dead.step(1, 1), -4);
        ChainedMen two = Due.yard("ata/.../...=w11");
        due.is("both stay", two.step(1, 2), 4);
        due.is("both would have to", two.step(1, 2), -4);
        ChainedMen one = Due.yard("ata/.../...=w12");
        one.step(1, 2);
        due.is("one has to", one.step(1, 2), 7);
        due.is("the one", one.who(4), 0);
        due.is("the other one", one.who(2), 2);
        ChainedMen held = Due.yard("mat./....=w11");
        due.is("still kept", held.step(2, 1), 3);
        due.is("the sleeper is held by another", held.step(2, 2), -4);
        ChainedMen ring = Due.yard("tma/.../...=r421");
        due.is("by the last chain of a ring", ring.step(0, 2), 3);
        due.is("the sleeper came along", ring.who(0), 2);
    }

    private static void takingAlongInWater() {
        ChainedMen x = Due.yard("../.t/a.=w1");
        x.tide(2);
        due.is("not into the water", x.step(0, 0), -4);
        due.is("though he could alone", x.open(0, 1), 0);
        due.is("so he goes", x.step(0, 0), 1);
        ChainedMen y = Due.yard("../.t/a.=w1");
        y.tide(1);
        due.is("out of the water", y.step(0, 0), 1);
        due.is("the sleeper, too", y.who(3), 1);
        ChainedMen z = Due.yard("../.t/a.=w2");
        z.tide(2);
        due.is("nobody has to go", z.step(0, 0), 1);
    }

    private static void fullLast() {
        ChainedMen x = Due.yard("m.=w");
        for (int n = 0; n < 60; n++) {
            due.is("step " + n, x.step(0, n % 2 == 0 ? 1 : 3), n % 2 == 0 ? 1 : 0);
        }
        due.is("BAD first", x.step(0, 4), -1);
        due.is("STATE ahead of FULL", x.step(0, 3), -4);
        due.is("FULL", x.step(0, 1), -2);
        due.is("he stays", x.who(0), 0);
        due.is("can() does not ask for room", x.can(0), 2);
        due.is("undo(60)", x.undo(60), 0);
        due.is("undo(61)", x.undo(61), -1);
        due.is("undo(59)", x.undo(59), 1);
        due.is("there is room again", x.step(0, 3), 0);
        due.is("FULL again", x.step(0, 1), -2);
    }

    private static void undone() {
        ChainedMen x = new ChainedMen();
        due.is("undo(0), no yard", x.undo(0), 0);
        due.is("undo(1), no yard", x.undo(1), -1);
        x = Due.yard("m../...=w");
        x.step(0, 1);
        x.step(0, 2);
        x.step(0, 1);
        x.tide(2);
        due.is("undo(-1)", x.undo(-1), -1);
        due.is("undo(4)", x.undo(4), -1);
        due.is("undo(3)", x.undo(3), 0);
        due.is("undo(1)", x.undo(1), 2);
        due.is("he is where he was", x.who(1), 0);
        due.is("the tide stays", x.tide(2), 2);
        due.is("one is left", x.count(2), 1);
    }

    private static void whoIsThere() {
        ChainedMen x = new ChainedMen();
        due.is("who(0), no cells", x.who(0), -1);
        x = Due.yard(".#/mt=w1");
        due.is("who(0)", x.who(0), -9);
        due.is("who(1)", x.who(1), -9);
        due.is("who(2)", x.who(2), 0);
        due.is("who(3)", x.who(3), 1);
        due.is("who(4)", x.who(4), -1);
        due.is("who(-1)", x.who(-1), -1);
        due.is("who(-9)", x.who(-9), -1);
    }

    private static void kept() {
        ChainedMen x = new ChainedMen();
        due.is("keep(0), no men", x.keep(0), -4);
        due.is("keep(3), no men", x.keep(3), -1);
        due.finds("on(0), none", x, x.on(0), 1);
        x = Due.yard("m.m./....=w2");
        due.is("keep(-1)", x.keep(-1), -1);
        due.is("on(-1)", x.on(-1), -1);
        due.is("on(3)", x.on(3), -1);
        x.step(0, 1);
        x.tide(1);
        x.open(0, 1);
        due.is("keep(2)", x.keep(2), 1);
        due.is("kept", x.count(9), 1);
        x.step(1, 1);
        x.step(0, 3);
        x.tide(0);
        x.quarrel(0, 1);
        due.is("keep(0)", x.keep(0), 3);
        due.is("on(2)", x.on(2), 1);
        due.is("his cell", x.who(1), 0);
        due.is("the other's", x.who(2), 1);
        due.is("the tide", x.tide(1), 1);
        due.tells("the open chain", x, x.chain(0, 3), 1);
        due.is("quarrels stay", x.count(8), 1);
        due.is("kept yards stay", x.count(9), 2);
        due.is("steps of it can be undone", x.undo(0), 1);
        due.is("to where it began", x.who(0), 0);
        due.is("what is kept stays as it was", x.on(2), 1);
        due.is("the other one", x.on(0), 3);
        due.is("its tide", x.tide(0), 0);
        due.tells("its men", x, x.man(1, 1), 3);
        due.tells("their steps", x, x.man(0, 3), 2);
        due.is("undo in it", x.undo(2), 1);
        due.is("as it was between", x.who(1), 0);
        x.open(0, 1);
        x.undo(0);
        x.open(0, 0);
        due.is("keep over an older one", x.keep(2), 0);
        due.is("on that", x.on(2), 0);
        due.tells("closed there", x, x.chain(0, 3), 0);
        keptWhole();
        rulesOfKept();
    }

    private static void keptWhole() {
        ChainedMen x = Due.yard("m.m./....=w9");
        x.step(0, 1);
        x.step(1, 2);
        x.open(0, 1);
        x.keep(1);
        long then = x.digest();
        x.undo(0);
        x.step(0, 2);
        x.step(1, 1);
        x.step(0, 1);
        x.open(0, 0);
        x.on(1);
        due.is("all is as it was kept", x.digest(), then);
        due.is("the last step is undone", x.undo(1), 1);
        due.is("as it was ahead of it", x.who(2), 1);
        due.is("the first, too", x.undo(0), 1);
        due.is("as it was at first", x.who(0), 0);
        x.on(1);
        due.is("as often as wanted", x.digest(), then);
    }

    private static void rulesOfKept() {
        ChainedMen x = Due.yard("m.m./....=w2");
        x.keep(0);
        x.tide(1);
        x.open(0, 1);
        x.keep(1);
        x.on(0);
        due.is("no water, chained", x.can(0), 2);
        due.is("no water, chained, the other", x.can(1), 8);
        due.is("to how many", x.reach() < 56 ? 1 : 0, 1);
        x.on(1);
        due.is("water, not chained", x.can(1), 2 + 8);
        due.is("to how many then", x.reach(), 6);
        due.is("in the first line", x.where(0), 7);
    }
}
