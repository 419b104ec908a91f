/** Promises 32 to 35: keys, files, STEPS judged. */
public final class KeysTest {
    private static final Due due = new Due("KeysTest");

    public static void main(String[] args) {
        keys();
        free();
        filed();
        filedRefused();
        judged();
        judgeRefused();
        due.end();
    }

    private static void keys(String what, ChainedMen x, int fewest, int which, int... sets) {
        Due.fill(x, 0, sets);
        due.is(what, x.keys(0), fewest);
        due.is(what + ", which", x.asked(), which);
    }

    private static void keys() {
        ChainedMen x = Due.yard("mm/mm=r2222");
        keys("three", x, 3, 7, 1, 6, 8, 4);
        keys("one", x, 1, 4, 3, 12, 15);
        keys("the least of alike ones", x, 2, 3, 3, 12, 5, 10);
        keys("fewest, not the least", x, 1, 16, 1, 2, 4, 8, 15);
        keys("eight", x, 4, 240, 0, 0, 0, 0, 1, 2, 4, 8);
        Due.fill(x, 0, 7, 7);
        x.at(0, 0);
        due.is("they don't", x.keys(0), -9);
        due.is("asked() stays then", x.asked(), 7);
        x.open(3, 1);
        keys("what is open needs none", x, 1, 1, 7, 7);
        for (int k = 0; k < 4; k++) {
            x.open(k, 1);
        }
        keys("all are open", x, 0, 0, 1, 2);
        keys("no chains, no keys", Due.yard("m=w"), 0, 0);
        ChainedMen y = new ChainedMen();
        due.is("keys(6)", y.keys(6), -1);
        due.is("no men", y.keys(0), -4);
        y = Due.yard("mmm=w11");
        due.finds("missing", y, y.keys(0), 1);
        Due.fill(y, 0, 9, 9, 9, 9, 9, 9, 9, 9, 9);
        due.finds("SIZE ahead of UNLIKE", y, y.keys(0), 5);
        Due.fill(y, 0, 3, 4);
        due.finds("no set", y, y.keys(0), 3);
        Due.fill(y, 0, 3, -1);
        due.finds("below none", y, y.keys(0), 3);
    }

    private static void free() {
        ChainedMen x = Due.yard("mmm=w11");
        Due.fill(x, 0, 1, 2, 3);
        due.is("an end", x.free(0, 0), 1);
        due.is("an end, which", x.asked(), 1);
        due.is("the other end", x.free(2, 0), 1);
        due.is("the other end, which", x.asked(), 2);
        due.is("the middle", x.free(1, 0), 1);
        due.is("the middle, which", x.asked(), 4);
        Due.fill(x, 0, 1);
        due.is("they don't", x.free(1, 0), -9);
        x.open(1, 1);
        due.is("one is open", x.free(1, 0), 1);
        due.is("free already", x.free(2, 0), 0);
        due.is("by none", x.asked(), 0);
        due.is("free(3, 0)", x.free(3, 0), -1);
        due.is("free(-1, 0)", x.free(-1, 0), -1);
        due.is("free(0, 6)", x.free(0, 6), -1);
        due.finds("missing", x, x.free(0, 5), 1);
        x.row(1, 9);
        due.finds("SIZE", x, x.free(0, 1), 5);
        Due.fill(x, 1, 4);
        due.finds("UNLIKE", x, x.free(0, 1), 3);
        due.is("no men", new ChainedMen().free(0, 0), -1);
        ChainedMen ring = Due.yard("mm/mm=r2222");
        Due.fill(ring, 0, 1, 8, 9);
        due.is("the first one of a ring", ring.free(0, 0), 1);
        due.is("by the last chain, too", ring.asked(), 4);
    }

    private static void filed(String what, ChainedMen x, int which, int none, int... seen) {
        Due.fill(x, 0, seen);
        due.is(what, x.filed(0), which);
        due.is(what + ", none", x.asked(), none);
    }

    private static void filed() {
        ChainedMen x = Due.yard("mmm./..../....=w11");
        filed("nothing seen", x, 3, 1);
        filed("all kept", x, 3, 1, 0, 1, 2);
        filed("the first", x, 1, 0, 0, 2, 3);
        filed("the second", x, 2, 0, 0, 1, 3);
        filed("neither alone", x, 0, 0, 0, 2, 8);
        filed("the first at one, the second at another", x, 0, 0, 0, 2, 3, 0, 1, 3);
        filed("the first at both", x, 1, 0, 0, 2, 3, 4, 2, 3);
        filed("two on one cell", x, 3, 1, 5, 5, 5);
        x.open(0, 1);
        filed("an open one was not", x, 2, 1, 0, 2, 3);
        filed("an open one aside", x, 2, 0, 0, 1, 3);
        filed("no chains", Due.yard("m=w"), 0, 1, 0);
        ChainedMen strong = Due.yard("tm..=w1");
        filed("as far as it reaches", strong, 1, 1, 0, 2);
        filed("farther", strong, 1, 0, 0, 3);
    }

    private static void filedRefused() {
        ChainedMen x = new ChainedMen();
        due.is("filed(6)", x.filed(6), -1);
        due.is("no men", x.filed(0), -4);
        x = Due.yard("mm#=w1");
        due.finds("missing", x, x.filed(0), 1);
        Due.fill(x, 0, 0, 1, 9);
        due.finds("SIZE ahead of UNLIKE", x, x.filed(0), 5);
        x.row(0, 18);
        due.finds("nine", x, x.filed(0), 5);
        x.row(0, 16);
        due.is("eight", x.filed(0), 1);
        Due.fill(x, 0, 0, 3);
        due.finds("no cell", x, x.filed(0), 3);
        Due.fill(x, 0, 0, -9);
        due.finds("NONE is no cell here", x, x.filed(0), 3);
        Due.fill(x, 0, 1, 2);
        due.is("a wall is a cell", x.filed(0), 1);
        ChainedMen one = Due.yard("m=w");
        one.row(0, 9);
        due.finds("nine of one", one, one.filed(0), 5);
    }

    private static void judged(String what, ChainedMen x, int first, int far, int... steps) {
        Due.fill(x, 0, steps);
        due.is(what, x.judge(0), first);
        due.is(what + ", asked()", x.asked(), far);
    }

    private static void judged() {
        ChainedMen x = Due.yard("m.m./....=w2");
        judged("none", x, 0, 2);
        judged("one", x, 1, 1, 1);
        judged("the first can't", x, 0, 2, 3, 1);
        judged("the third can't", x, 2, 2, 1, 11, 11, 1);
        judged("all of them", x, 4, 2, 1, 12, 1, 1);
        due.is("it is aside", x.count(2), 0);
        x.open(0, 1);
        judged("open chains are stretched, too", x, 1, 3, 11);
        x.tide(1);
        judged("by the tide", x, 1, 3, 11, 12);
        judged("no chains", Due.yard("m..=w"), 2, 0, 1, 1, 1);
        judged("takes along", Due.yard("at..=w1"), 2, 1, 11, 11, 11);
    }

    private static void judgeRefused() {
        ChainedMen x = new ChainedMen();
        due.is("judge(6)", x.judge(6), -1);
        due.is("no men", x.judge(0), -4);
        x = Due.yard("m.m=w2");
        due.finds("missing", x, x.judge(0), 1);
        int[] unlike = {-1, 4, 9, 14, 20, 23, Integer.MIN_VALUE, Integer.MAX_VALUE};
        for (int step : unlike) {
            Due.fill(x, 0, 3, step);
            due.finds("step " + step, x, x.judge(0), 3);
        }
        ChainedMen y = Due.yard("m.=w");
        for (int n = 0; n < 60; n++) {
            y.step(0, n % 2 == 0 ? 1 : 3);
        }
        Due.fill(y, 0, 1, 3);
        due.is("60 steps do not matter", y.judge(0), 2);
    }
}
