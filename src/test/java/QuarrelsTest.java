/** Promises 36 to 39: QUARRELS, Easter, LOTS. */
public final class QuarrelsTest {
    private static final Due due = new Due("QuarrelsTest");

    public static void main(String[] args) {
        quarrels();
        easter();
        lots();
        lotsRefused();
        due.end();
    }

    private static void quarrels() {
        ChainedMen x = new ChainedMen();
        due.is("no men", x.quarrel(0, 1), -1);
        due.is("peace(0)", x.peace(0), 0);
        due.is("peace(1)", x.peace(1), -1);
        x = Due.yard("mm=w1");
        due.is("one alone", x.quarrel(1, 1), -1);
        due.is("quarrel(0, 2)", x.quarrel(0, 2), -1);
        due.is("quarrel(-1, 0)", x.quarrel(-1, 0), -1);
        for (int n = 0; n < 8; n++) {
            due.is("quarrel " + n, x.quarrel(n % 2, 1 - n % 2), n);
        }
        due.is("FULL", x.quarrel(0, 1), -2);
        due.is("BAD ahead of FULL", x.quarrel(0, 0), -1);
        due.is("how many", x.count(8), 8);
        due.is("peace(9)", x.peace(9), -1);
        due.is("peace(-1)", x.peace(-1), -1);
        due.is("peace(8)", x.peace(8), 0);
        due.is("peace(5)", x.peace(5), 3);
        due.is("then the next", x.quarrel(0, 1), 5);
        due.is("peace(0), all", x.peace(0), 6);
        due.is("none", x.count(8), 0);
    }

    private static void easter(String signs, int fewest, int[] order, int... pairs) {
        ChainedMen x = Due.yard(signs);
        for (int pair : pairs) {
            x.quarrel(pair / 10, pair % 10);
        }
        x.row(4, 9);
        long before = x.count(3);
        due.is("easter in " + signs, x.easter(4), fewest);
        due.is("easter in " + signs + ", the order", Due.holds(x, 4, order), 1);
        due.is("they are told it alone", x.count(3), before);
    }

    private static void easter() {
        easter("m=r", 0, new int[] {0});
        easter("mm=r1", 0, new int[] {0, 1});
        easter("mm=r1", 2, new int[] {0, 1}, 1, 10);
        easter("mm=w1", 8, new int[] {0, 1}, 1, 1, 1, 1, 1, 10, 1, 1);
        easter("mmm=w11", 0, new int[] {0, 1, 2});
        easter("mmm=w11", 0, new int[] {0, 2, 1}, 1);
        easter("mmm=w11", 0, new int[] {0, 2, 1}, 10, 1, 1);
        easter("mmm=w11", 0, new int[] {0, 1, 2}, 20);
        easter("mmm=w11", 1, new int[] {0, 1, 2}, 1, 2, 2);
        easter("mmm=r112", 1, new int[] {0, 1, 2}, 1);
        easter("mm/mm=r2222", 1, new int[] {0, 2, 1, 3}, 1, 12, 1);
        easter("mm/mm=w222", 0, new int[] {0, 2, 1, 3}, 1, 12 + 11);
        easter("mm/mm=w222", 0, new int[] {1, 3, 0, 2}, 1, 12, 23);
        easter("mm/mm=r2222", 4, new int[] {0, 1, 2, 3}, 1, 2, 3, 12, 13, 23);
        ChainedMen x = new ChainedMen();
        due.is("easter(6)", x.easter(6), -1);
        due.is("easter(-1)", x.easter(-1), -1);
        due.is("no men", x.easter(0), -4);
        due.is("nothing came", x.count(6), 0);
    }

    /** By the numbers as the document tells them, one step() each. */
    private static int byHand(ChainedMen x, int n, int seed) {
        java.math.BigInteger lot = java.math.BigInteger.valueOf(seed);
        int steps = 0;
        for (int drawn = 0; drawn < n; drawn++) {
            lot = lot.multiply(java.math.BigInteger.valueOf(48271)).mod(java.math.BigInteger.valueOf(2147483647));
            long v = lot.longValue();
            steps += x.step((int) (v % x.count(0)), (int) (v / 64 % 4)) >= 0 ? 1 : 0;
        }
        return steps;
    }

    private static void lots() {
        int[] seeds = {1, 5, 99, 31337, 2147483646, 1234567890};
        String[] yards = {"m.=w", "mt../.a../l...=w299", "tm../a.#./.s..=r9999", "t.a./..../m..m=r9999"};
        for (String signs : yards) {
            for (int seed : seeds) {
                ChainedMen x = Due.yard(signs);
                ChainedMen y = Due.yard(signs);
                due.is("lots(7, " + seed + ") in " + signs, x.lots(7, seed), byHand(y, 7, seed));
                int room = 60 - x.count(2);
                due.is("lots of the rest", x.lots(room, seed), byHand(y, room, seed));
                due.is("the same digest", x.digest(), y.digest());
            }
        }
    }

    private static void lotsRefused() {
        ChainedMen x = new ChainedMen();
        due.is("lots(1, 1), no men", x.lots(1, 1), -4);
        due.is("lots(0, 1)", x.lots(0, 1), -1);
        x = Due.yard("m.=w");
        due.is("lots(-1, 1)", x.lots(-1, 1), -1);
        due.is("lots(61, 1)", x.lots(61, 1), -1);
        due.is("lots(1, 0)", x.lots(1, 0), -1);
        due.is("lots(1, -1)", x.lots(1, -1), -1);
        due.is("lots(1, greatest)", x.lots(1, 2147483647), -1);
        x.step(0, 1);
        due.is("more than 60", x.lots(60, 1), -2);
        due.is("no step by that", x.count(2), 1);
        due.is("BAD ahead of FULL", x.lots(60, 0), -1);
        due.is("just 60", x.lots(59, 1) >= 0 ? 1 : 0, 1);
    }
}
