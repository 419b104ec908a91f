/** Counts answers that are not as due, and helps to set up an object. */
final class Due {
    private final String name;
    private int asked;
    private int wrong;

    Due(String name) {
        this.name = name;
    }

    void is(String call, long got, long want) {
        asked++;
        if (got != want) {
            wrong++;
            System.out.println(name + ": " + call + " answered " + got + ", due is " + want);
        }
    }

    /** The answer is 1, and asked() tells a number. */
    void tells(String call, ChainedMen x, int got, int want) {
        is(call, got, 1);
        is(call + ", asked()", x.asked(), want);
    }

    /** The answer is FINDING, and finding() tells which. */
    void finds(String call, ChainedMen x, int got, int which) {
        is(call, got, ChainedMen.FINDING);
        is(call + ", finding()", x.finding(), which);
    }

    /** Tells how it was, and ends the machine with 1 if an answer was wrong. */
    void end() {
        System.out.println(name + ": " + asked + " answers looked at, " + wrong + " wrong");
        if (wrong != 0) {
            System.exit(1);
        }
    }

    static void write(ChainedMen x, int t, String signs) {
        x.text(t, signs.length());
        for (int i = 0; i < signs.length(); i++) {
            x.put(t, i, signs.charAt(i));
        }
    }

    static ChainedMen yard(String signs) {
        ChainedMen x = new ChainedMen();
        write(x, 0, signs);
        if (x.yard(0) < 0) {
            throw new IllegalStateException("no yard: " + signs);
        }
        return x;
    }

    static void fill(ChainedMen x, int r, int... places) {
        x.row(r, places.length);
        for (int i = 0; i < places.length; i++) {
            x.lay(r, i, places[i]);
        }
    }

    /** Whether a ROW is just so: 1, or 0. */
    static int holds(ChainedMen x, int r, int... places) {
        for (int i = 0; i < places.length; i++) {
            if (x.at(r, i) != 1 || x.asked() != places[i]) {
                return 0;
            }
        }
        return x.at(r, places.length) == ChainedMen.FINDING ? 1 : 0;
    }
}
