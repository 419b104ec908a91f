/** Promises 23 to 29: where all can come to, in how few STEPS, by which. */
public final class WhereToTest {
    private static final Due due = new Due("WhereToTest");

    public static void main(String[] args) {
        near();
        nearRefused();
        path();
        reach();
        where();
        meet();
        window();
        comes();
        comesRefused();
        due.end();
    }

    private static void near() {
        ChainedMen x = Due.yard("m./..=w");
        Due.fill(x, 0, 3);
        due.is("across", x.near(0), 2);
        due.is("right first", x.asked(), 1);
        Due.fill(x, 0, 0);
        due.is("as it is", x.near(0), 0);
        due.is("no step", x.asked(), -9);
        ChainedMen y = Due.yard("m.m./....=w2");
        Due.fill(y, 0, -9, 3);
        due.is("the one has to follow", y.near(0), 2);
        due.is("he goes first", y.asked(), 1);
        Due.fill(y, 0, 2, -9);
        due.is("the other has to go away", y.near(0), 3);
        due.is("of alike ways the first", y.asked(), 1);
        Due.fill(y, 0, 3, 3);
        y.at(0, 0);
        due.is("none leads there", y.near(0), -9);
        due.is("asked() stays then", y.asked(), 3);
        due.is("near() is aside", y.count(2), 0);
        ChainedMen wall = Due.yard("m#=w");
        Due.fill(wall, 0, 1);
        due.is("a wall is a cell to which none leads", wall.near(0), -9);
    }

    private static void nearRefused() {
        ChainedMen x = new ChainedMen();
        due.is("near(6)", x.near(6), -1);
        due.is("path(0, -1)", x.path(0, -1), -1);
        due.is("near(0), no men", x.near(0), -4);
        due.is("path(0, 1), no men", x.path(0, 1), -4);
        x = Due.yard("m.m./....=w2");
        due.finds("near, missing", x, x.near(0), 1);
        due.finds("path, missing", x, x.path(0, 1), 1);
        Due.fill(x, 0, 99, 99, 99);
        due.finds("near, SIZE ahead of UNLIKE", x, x.near(0), 5);
        due.finds("path, SIZE ahead of UNLIKE", x, x.path(0, 1), 5);
        Due.fill(x, 0, -9, 8);
        due.finds("near, no cell", x, x.near(0), 3);
        due.finds("path, no cell", x, x.path(0, 1), 3);
        Due.fill(x, 0, -1, 0);
        due.finds("near, neither", x, x.near(0), 3);
        due.is("nothing came", x.count(6), 1);
    }

    private static void path() {
        ChainedMen x = Due.yard("m./..=w");
        Due.fill(x, 0, 3);
        due.is("across", x.path(0, 5), 2);
        due.is("right, then down", Due.holds(x, 5, 1, 2), 1);
        due.is("onto itself", x.path(0, 0), 2);
        due.is("came", Due.holds(x, 0, 1, 2), 1);
        Due.fill(x, 0, 0);
        due.is("as it is", x.path(0, 5), 0);
        due.is("a row without places", Due.holds(x, 5), 1);
        due.is("two rows", x.count(6), 2);
        ChainedMen y = Due.yard("m.m./....=w2");
        Due.fill(y, 0, 3, -9);
        Due.fill(y, 1, 7);
        due.is("past the other", y.path(0, 1), 4);
        due.is("by these", Due.holds(y, 1, 1, 12, 1, 1), 1);
        due.is("which can be done", y.judge(1), 4);
        Due.fill(y, 0, 3, 3);
        due.is("none", y.path(0, 1), -9);
        due.is("so nothing came", Due.holds(y, 1, 1, 12, 1, 1), 1);
        deepPath();
    }

    /** 43 STEPS lead to the farthest STAND of the shared test's yard: too many for a ROW. */
    private static void deepPath() {
        PlainMen plain = new PlainMen();
        ChainedMen x = Due.yard("ta../.m#./..l.=r2443");
        plain.text(0, 20);
        String signs = "ta../.m#./..l.=r2443";
        for (int i = 0; i < signs.length(); i++) {
            plain.put(0, i, signs.charAt(i));
        }
        plain.yard(0);
        x.step(0, 2);
        plain.step(0, 2);
        for (int far = 39; far <= 43; far++) {
            java.util.List<Integer> stand = plain.someStandAt(far);
            for (int i = 0; i < 4; i++) {
                if (i == 0) {
                    x.row(1, 4);
                }
                x.lay(1, i, stand.get(i));
            }
            due.is("near, " + far, x.near(1), far);
            due.is("path, " + far, x.path(1, 2), far <= 40 ? far : -9);
        }
        due.is("the row of the longest is whole", x.judge(2), 40);
    }

    private static void reach() {
        ChainedMen x = new ChainedMen();
        due.is("reach(), no men", x.reach(), -4);
        x = Due.yard("m..=w");
        due.is("three", x.reach(), 3);
        due.is("two steps", x.asked(), 2);
        x.step(0, 1);
        due.is("three from the middle", x.reach(), 3);
        due.is("one step", x.asked(), 1);
        x.tide(1);
        due.is("in the water", x.reach(), 1);
        due.is("none", x.asked(), 0);
        due.is("all of two", Due.yard("m.m./....=w9").reach(), 56);
        due.is("all of four", Due.yard("mmmm/..../....=r9999").reach(), 11880);
        due.is("asleep", Due.yard("a...=w").reach(), 1);
    }

    private static void where() {
        ChainedMen x = Due.yard("m#./..m=w9");
        due.is("where(0)", x.where(0), 57);
        due.is("by at most", x.asked(), 4);
        due.is("where(1)", x.where(1), 60);
        due.is("by at most, the other", x.asked(), 2);
        due.is("where(2)", x.where(2), -1);
        due.is("where(-1)", x.where(-1), -1);
        due.is("lame", Due.yard(".l./...=w").where(0), 7);
        due.is("no men", new ChainedMen().where(0), -1);
        ChainedMen y = Due.yard("at..=w1");
        due.is("a sleeper is dragged about", y.where(0), 5);
        due.is("dead, he is not", Due.yard("dt..=w1").where(0), 1);
    }

    private static void meet() {
        ChainedMen x = Due.yard("m..m=w3");
        due.is("two steps", x.meet(0, 1), 2);
        due.is("the other way about", x.meet(1, 0), 2);
        due.is("one alone", x.meet(0, 0), -1);
        due.is("meet(0, 2)", x.meet(0, 2), -1);
        due.is("meet(-1, 0)", x.meet(-1, 0), -1);
        due.is("side by side", Due.yard("mm=w1").meet(0, 1), 0);
        due.is("they can't", Due.yard("m#m=w2").meet(0, 1), -9);
        due.is("corner to corner is 2", Due.yard("m./.m=w2").meet(0, 1), 1);
    }

    private static void window() {
        ChainedMen x = new ChainedMen();
        due.is("no cells", x.window(0), -1);
        due.is("no men", Due.yard("..=w").window(1), -4);
        due.is("no men, no column", Due.yard("..=w").window(2), -1);
        x = Due.yard("mm./...=w2");
        due.is("to column 0", x.window(0), 2);
        due.is("to column 1", x.window(1), 2);
        due.is("to column 2", x.window(2), 4);
        due.is("window(3)", x.window(3), -1);
        due.is("window(-1)", x.window(-1), -1);
        due.is("there", Due.yard("m/m=w1").window(0), 0);
        due.is("they can't", Due.yard("mm=w1").window(0), -9);
    }

    private static void comes() {
        ChainedMen x = Due.yard("at..=w1");
        Due.fill(x, 0, 0, 1);
        Due.fill(x, 1, 2, 3);
        due.is("one can", x.comes(0, 1), 1);
        due.is("not back", x.comes(1, 0), 0);
        due.is("stays", x.comes(0, 0), 1);
        due.is("it is aside", x.who(0), 0);
        ChainedMen y = Due.yard("m./..=w");
        Due.fill(y, 0, 2);
        Due.fill(y, 1, 0);
        y.tide(1);
        due.is("out of the water", y.comes(0, 1), 1);
        due.is("not into it", y.comes(1, 0), 0);
        ChainedMen z = Due.yard("mm../....=w1");
        Due.fill(z, 0, 0, 1);
        Due.fill(z, 1, 0, 3);
        z.open(0, 1);
        due.is("by open chains", z.comes(0, 1), 1);
        z.open(0, 0);
        due.finds("not by closed ones", z, z.comes(0, 1), 3);
    }

    private static void comesRefused() {
        ChainedMen x = new ChainedMen();
        due.is("comes(6, 0)", x.comes(6, 0), -1);
        due.is("comes(0, 6)", x.comes(0, 6), -1);
        due.is("no men", x.comes(0, 0), -4);
        x = Due.yard("mm#=w1");
        Due.fill(x, 0, 0, 1);
        due.finds("missing, the second", x, x.comes(0, 1), 1);
        due.finds("missing, the first", x, x.comes(1, 0), 1);
        Due.fill(x, 1, 9);
        due.finds("NOTHING ahead of SIZE", x, x.comes(1, 2), 1);
        due.finds("SIZE, the second", x, x.comes(0, 1), 5);
        due.finds("SIZE, the first", x, x.comes(1, 0), 5);
        Due.fill(x, 2, 9, 9);
        due.finds("SIZE ahead of UNLIKE", x, x.comes(2, 1), 5);
        due.finds("no cell", x, x.comes(2, 0), 3);
        Due.fill(x, 2, -9, 0);
        due.finds("NONE is no cell here", x, x.comes(0, 2), 3);
        Due.fill(x, 2, 1, 2);
        due.finds("a wall", x, x.comes(0, 2), 3);
        Due.fill(x, 2, 1, 1);
        due.finds("two on one", x, x.comes(0, 2), 3);
        due.finds("two on one, the first", x, x.comes(2, 0), 3);
        Due.fill(x, 2, 1, 0);
        due.is("sound, but not to be come to", x.comes(0, 2), 0);
    }
}
