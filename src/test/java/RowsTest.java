/** Promises 1 to 9: a new object, ROWS, TEXTS. */
public final class RowsTest {
    private static final Due due = new Due("RowsTest");

    public static void main(String[] args) {
        newObject();
        rows();
        places();
        copies();
        means();
        texts();
        due.end();
    }

    private static void newObject() {
        ChainedMen x = new ChainedMen();
        for (int what = 0; what < 10; what++) {
            due.is("new count(" + what + ")", x.count(what), 0);
        }
        due.is("new asked()", x.asked(), 0);
        due.is("new finding()", x.finding(), 0);
        for (int f = 1; f <= 5; f++) {
            due.is("new findings(" + f + ")", x.findings(f), 0);
        }
        for (int r = 0; r < 6; r++) {
            due.finds("new at(" + r + ", 0)", x, x.at(r, 0), 1);
        }
        for (int t = 0; t < 4; t++) {
            due.finds("new put(" + t + ", 0, 1)", x, x.put(t, 0, 1), 1);
        }
        Due.write(x, 0, "m=w");
        x.yard(0);
        due.is("new tide", x.tide(2), 0);
    }

    private static void rows() {
        ChainedMen x = new ChainedMen();
        due.is("row(5, 40)", x.row(5, 40), 40);
        due.is("row(0, 0)", x.row(0, 0), 0);
        due.is("row(0, 41)", x.row(0, 41), -1);
        due.is("row(6, 1)", x.row(6, 1), -1);
        due.is("row(-1, 1)", x.row(-1, 1), -1);
        due.is("row(6, -1) is BAD ahead of SIZE", x.row(6, -1), -1);
        due.is("no finding by BAD", x.finding(), 0);
        due.finds("row(1, -1)", x, x.row(1, -1), 5);
        due.finds("row(1, least)", x, x.row(1, Integer.MIN_VALUE), 5);
        due.is("a refused row is not there", x.count(6), 2);
        x.lay(5, 39, 7);
        due.finds("row(5, -1)", x, x.row(5, -1), 5);
        due.tells("it is as it was", x, x.at(5, 39), 7);
        due.is("row(5, 40) again", x.row(5, 40), 40);
        due.tells("ints are 0 again", x, x.at(5, 39), 0);
        due.is("row(5, 3)", x.row(5, 3), 3);
        due.finds("fewer now", x, x.at(5, 3), 2);
        due.is("tear(5)", x.tear(5), 1);
        due.is("one less", x.count(6), 1);
        due.finds("tear(5) again", x, x.tear(5), 1);
        due.is("tear(6)", x.tear(6), -1);
        due.is("tear(-1)", x.tear(-1), -1);
    }

    private static void places() {
        ChainedMen x = new ChainedMen();
        due.finds("lay, missing", x, x.lay(2, 0, 1), 1);
        x.row(2, 3);
        due.tells("lay(2, 0, 5)", x, x.lay(2, 0, 5), 0);
        due.tells("lay(2, 0, least)", x, x.lay(2, 0, Integer.MIN_VALUE), 5);
        due.tells("at(2, 0)", x, x.at(2, 0), Integer.MIN_VALUE);
        due.finds("lay(2, 3, 1)", x, x.lay(2, 3, 1), 2);
        due.finds("lay(2, -1, 1)", x, x.lay(2, -1, 1), 2);
        due.finds("at(2, greatest)", x, x.at(2, Integer.MAX_VALUE), 2);
        due.is("lay(6, 0, 1)", x.lay(6, 0, 1), -1);
        due.is("at(-1, 0)", x.at(-1, 0), -1);
        due.is("asked() stays when refused", x.asked(), Integer.MIN_VALUE);
    }

    private static void copies() {
        ChainedMen x = new ChainedMen();
        Due.fill(x, 0, 1, 2, 3, 4, 5);
        x.row(1, 3);
        due.is("copy(0, 1, 1, 0, 3)", x.copy(0, 1, 1, 0, 3), 1);
        due.is("came", Due.holds(x, 1, 2, 3, 4), 1);
        due.is("copy onto itself, ahead", x.copy(0, 0, 0, 1, 4), 1);
        due.is("as if taken ahead", Due.holds(x, 0, 1, 1, 2, 3, 4), 1);
        due.is("copy onto itself, behind", x.copy(0, 1, 0, 0, 4), 1);
        due.is("as if taken ahead, too", Due.holds(x, 0, 1, 2, 3, 4, 4), 1);
        due.is("none from the end", x.copy(0, 5, 1, 3, 0), 1);
        due.finds("none from behind the end", x, x.copy(0, 6, 1, 0, 0), 2);
        due.finds("none to ahead of the start", x, x.copy(0, 0, 1, -1, 0), 2);
        due.finds("not so many", x, x.copy(0, 3, 1, 0, 3), 2);
        due.finds("not so much room", x, x.copy(0, 0, 1, 1, 3), 2);
        due.finds("from least", x, x.copy(0, Integer.MIN_VALUE, 1, 0, 1), 2);
        due.finds("from greatest", x, x.copy(0, Integer.MAX_VALUE, 1, 0, 1), 2);
        due.finds("greatest many", x, x.copy(0, 1, 1, 1, Integer.MAX_VALUE), 2);
        due.finds("SIZE ahead of NOTHING", x, x.copy(4, 0, 5, 0, -1), 5);
        due.finds("NOTHING ahead of BEYOND", x, x.copy(0, 9, 5, 0, 1), 1);
        due.finds("NOTHING, the first", x, x.copy(5, 9, 0, 0, 1), 1);
        due.is("BAD ahead of SIZE", x.copy(0, 0, 6, 0, -1), -1);
        due.is("BAD", x.copy(-1, 0, 0, 0, 1), -1);
        due.is("nothing came by these", Due.holds(x, 1, 2, 3, 4), 1);
    }

    private static void means() {
        ChainedMen x = new ChainedMen();
        Due.fill(x, 0, 3, 4);
        due.tells("mean of 3, 4", x, x.mean(0), 3);
        Due.fill(x, 0, -3, -4);
        due.tells("mean of -3, -4 is cut", x, x.mean(0), -3);
        Due.fill(x, 0, Integer.MAX_VALUE, Integer.MAX_VALUE, Integer.MAX_VALUE);
        due.tells("mean of great ones", x, x.mean(0), Integer.MAX_VALUE);
        Due.fill(x, 0, Integer.MIN_VALUE, Integer.MIN_VALUE);
        due.tells("mean of small ones", x, x.mean(0), Integer.MIN_VALUE);
        x.row(1, 0);
        due.finds("mean of none", x, x.mean(1), 4);
        due.finds("mean, missing", x, x.mean(2), 1);
        due.is("mean(6)", x.mean(6), -1);
        due.is("asked() stays", x.asked(), Integer.MIN_VALUE);
    }

    private static void texts() {
        ChainedMen x = new ChainedMen();
        due.is("text(3, 40)", x.text(3, 40), 40);
        due.is("text(0, 0)", x.text(0, 0), 0);
        due.is("text(0, 41)", x.text(0, 41), -1);
        due.is("text(4, 1)", x.text(4, 1), -1);
        due.is("text(-1, -1)", x.text(-1, -1), -1);
        due.finds("text(1, -1)", x, x.text(1, -1), 5);
        due.is("two are there", x.count(7), 2);
        due.is("a blank was there", x.put(3, 39, 200), 1032);
        due.is("a byte has a sign", x.put(3, 39, 256 + 65), 1000 - 56);
        due.is("cut to a byte", x.put(3, 39, -1), 1065);
        due.is("below 0", x.put(3, 39, 127), 999);
        due.finds("put(3, 40, 1)", x, x.put(3, 40, 1), 2);
        due.finds("put(3, -1, 1)", x, x.put(3, -1, 1), 2);
        due.finds("put(0, 0, 1)", x, x.put(0, 0, 1), 2);
        due.finds("put, missing", x, x.put(2, 0, 1), 1);
        due.is("put(4, 0, 1)", x.put(4, 0, 1), -1);
        due.is("text(3, 1) anew", x.text(3, 1), 1);
        due.is("blank again", x.put(3, 0, 1), 1032);
        due.is("asked() is not told by put()", x.asked(), 0);
    }
}
