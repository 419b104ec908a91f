/** Promises 30 and 31: wants met one behind the other, and in the best order. */
public final class WantsTest {
    private static final Due due = new Due("WantsTest");

    public static void main(String[] args) {
        fetched();
        fetchRefused();
        ordered();
        orderRefused();
        due.end();
    }

    private static void fetch(String what, ChainedMen x, int met, int steps, int... wants) {
        Due.fill(x, 0, wants);
        due.is(what, x.fetch(0), met);
        due.is(what + ", asked()", x.asked(), steps);
    }

    private static void fetched() {
        ChainedMen x = Due.yard("m..m/....=w9");
        fetch("none", x, 0, 0);
        fetch("one", x, 1, 2, 2);
        fetch("already there", x, 1, 0, 103);
        fetch("one behind the other", x, 2, 4, 2, 102);
        fetch("five", x, 5, 10, 1, 0, 3, 0, 1);
        due.is("it is aside", x.count(2), 0);
        due.is("nobody went", x.who(0), 0);
        ChainedMen first = Due.yard(".m./.m.=w9");
        fetch("of alike stands the first, not of alike steps", first, 2, 2, 101, 0);
        fetch("so the other side is farther", first, 2, 5, 101, 2);
        ChainedMen wall = Due.yard("m.#.=w");
        fetch("a wall", wall, 0, 0, 2);
        fetch("till one can't", wall, 1, 1, 1, 3, 0);
        fetch("a second one can't", wall, 2, 2, 1, 0, 2, 1, 0);
        ChainedMen chained = Due.yard("mm../....=w1");
        fetch("neither can", chained, 0, 0, 3);
        chained = Due.yard("mm../....=w2");
        fetch("both go", chained, 1, 5, 3);
        chained.open(0, 1);
        fetch("past him, not chained", chained, 1, 4, 3);
        chained.tide(1);
        fetch("with water", chained, 0, 0, 3);
    }

    private static void fetchRefused() {
        ChainedMen x = new ChainedMen();
        due.is("fetch(6)", x.fetch(6), -1);
        due.is("fetch(-1)", x.fetch(-1), -1);
        due.is("no men", x.fetch(0), -4);
        x = Due.yard("m..m=w3");
        due.finds("missing", x, x.fetch(0), 1);
        Due.fill(x, 0, -1, -1, -1, -1, -1, -1);
        due.finds("SIZE ahead of UNLIKE", x, x.fetch(0), 5);
        int[] unlike = {-1, -100, 4, 99, 104, 200, 300, Integer.MIN_VALUE, Integer.MAX_VALUE};
        for (int want : unlike) {
            Due.fill(x, 0, 0, want);
            due.finds("want " + want, x, x.fetch(0), 3);
        }
        Due.fill(x, 0, 103, 3);
        due.is("the last cell of the last man", x.fetch(0), 1);
    }

    private static void order(String what, ChainedMen x, int met, int[] best, int... wants) {
        Due.fill(x, 0, wants);
        x.row(1, 7);
        x.at(1, 0);
        int told = x.asked();
        due.is(what, x.order(0, 1), met);
        due.is(what + ", asked() is not told", x.asked(), told);
        due.is(what + ", the order", Due.holds(x, 1, best), 1);
    }

    private static void ordered() {
        ChainedMen x = Due.yard("m...=w");
        order("none", x, 0, new int[] {});
        order("one", x, 1, new int[] {0}, 3);
        order("fewer steps", x, 2, new int[] {1, 0}, 3, 1);
        order("alike", x, 3, new int[] {0, 1, 2}, 2, 2, 2);
        order("five", x, 5, new int[] {4, 1, 3, 2, 0}, 3, 1, 2, 1, 0);
        due.is("it is aside", x.count(2), 0);
        ChainedMen wall = Due.yard("m.#.=w");
        order("most", wall, 1, new int[] {1, 0}, 2, 1);
        order("none can be", wall, 0, new int[] {0, 1, 2}, 2, 3, 2);
        order("what can't be is last", wall, 2, new int[] {3, 1, 0, 2}, 3, 1, 2, 0);
        ChainedMen one = Due.yard("at..=w1");
        order("one way alone", one, 2, new int[] {1, 0}, 2, 0);
        Due.fill(one, 0, 2, 0);
        due.is("onto itself", one.order(0, 0), 2);
        due.is("came", Due.holds(one, 0, 1, 0), 1);
    }

    private static void orderRefused() {
        ChainedMen x = new ChainedMen();
        due.is("order(6, 0)", x.order(6, 0), -1);
        due.is("order(0, 6)", x.order(0, 6), -1);
        due.is("order(0, -1)", x.order(0, -1), -1);
        due.is("no men", x.order(0, 1), -4);
        x = Due.yard("m..m=w3");
        due.finds("missing", x, x.order(0, 1), 1);
        Due.fill(x, 0, -1, -1, -1, -1, -1, -1);
        due.finds("SIZE ahead of UNLIKE", x, x.order(0, 1), 5);
        Due.fill(x, 0, 4);
        due.finds("no cell", x, x.order(0, 1), 3);
        Due.fill(x, 0, 200);
        due.finds("no man", x, x.order(0, 1), 3);
        due.is("nothing came", x.count(6), 1);
    }
}
