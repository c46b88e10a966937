/** Promises 15 to 18: left, jam, near, odds. */
public final class WhoTest {
    private static final Check CHECK = new Check();
    private static final int[] STRANGE = {-1, 16, 1000, Integer.MAX_VALUE, Integer.MIN_VALUE};

    public static void main(String[] args) {
        left();
        jam();
        near();
        odds();
        CHECK.end();
    }

    private static void left() {
        GateChain x = Check.told("n3;l123;l45;l900;l7;k0 0;k0 1;k1 2;k2 3;k1 3;");
        for (int l = 0; l < 4; l++) {
            CHECK.due("left(" + l + ") shut", x.left(l), GateChain.NONE);
        }
        x.opens(0, 1);
        int[] left = {6, -9, 0, 0};
        for (int l = 0; l < 4; l++) {
            CHECK.due("left(" + l + ")", x.left(l), left[l]);
        }
        CHECK.due("shuts(0, 0)", x.shuts(0, 0), 2);
        x.opens(0, 0);
        int[] then = {-9, 0, -9, -9};
        for (int l = 0; l < 4; l++) {
            CHECK.due("left(" + l + ") in a ring of 2", x.left(l), then[l]);
        }
        CHECK.due("left(4)", x.left(4), GateChain.BAD);
        for (int s : STRANGE) {
            CHECK.due("left(" + s + ")", x.left(s), GateChain.BAD);
        }
    }

    private static void jam() {
        GateChain x = Check.told("n4;l1;l2;l3;l4;l5;k0 0;k1 1;k1 2;k2 1;k2 2;k2 3;k3 0;k3 4;");
        int[] sets = {1, 2, 4, 5, 12, -9, -9, -9};
        int[] known = {x.person(0, 0), x.person(1, 0), x.person(2, 0), x.person(3, 0)};
        for (int r = 0; r < 8; r++) {
            CHECK.due("jam(" + r + ")", x.jam(r), sets[r]);
            CHECK.due("jam(" + r + ") by all sets", x.jam(r), fewest(known, r));
        }
        CHECK.due("jam(8)", x.jam(8), GateChain.BAD);
        for (int s : STRANGE) {
            CHECK.due("jam(" + s + ")", x.jam(s), GateChain.BAD);
        }
        x.tells(2, 0, 1);
        x.opens(0, 0);
        x.shuts(4, 0);
        CHECK.due("jam(0) of a ring of 2", x.jam(0), 1);
        CHECK.due("jam(1) of a ring of 2", x.jam(1), 8);
        CHECK.due("jam(2) of a ring of 2", x.jam(2), GateChain.NONE);
    }

    private static int fewest(int[] known, int r) {
        int best = GateChain.NONE;
        for (int set = (1 << known.length) - 1; set > 0; set--) {
            int locks = 0;
            for (int p = 0; p < known.length; p++) {
                locks |= (set >> p & 1) == 1 ? known[p] : 0;
            }
            boolean enough = Integer.bitCount(locks) > r;
            if (enough && (best < 0 || Integer.bitCount(set) <= Integer.bitCount(best))) {
                best = set;
            }
        }
        return best;
    }

    private static void near() {
        GateChain x = Check.told("l123;l987;k0 0;");
        x.tries(0, 590);
        for (int n = 0; n <= 15; n++) {
            CHECK.due("near(0, " + n + ")", x.near(0, n), ByHand.within(590, n));
            CHECK.due("near(1, " + n + ")", x.near(1, n), ByHand.within(0, n));
        }
        CHECK.due("near(0, 0) by hand", x.near(0, 0), 1);
        CHECK.due("near(0, 1) by hand", x.near(0, 1), 7);
        CHECK.due("near(0, 14) by hand", x.near(0, 14), 999);
        CHECK.due("near(0, 15) by hand", x.near(0, 15), 1000);
        CHECK.due("near(2, 0)", x.near(2, 0), GateChain.BAD);
        for (int s : STRANGE) {
            CHECK.due("near(" + s + ", 0)", x.near(s, 0), GateChain.BAD);
            CHECK.due("near(0, " + s + ")", x.near(0, s), GateChain.BAD);
        }
    }

    private static void odds() {
        String text = "n6;l1;";
        for (int getIn = 0; getIn <= 6; getIn++) {
            GateChain x = Check.told(text);
            for (int tenths = 0; tenths <= 10; tenths++) {
                fraction(x, tenths, getIn);
            }
            text = text.concat("k" + getIn % 6 + " 0;");
        }
        GateChain x = Check.told("n2;l1;k0 0;k1 0;");
        CHECK.due("odds(4, 0) by hand", x.odds(4, 0), 21);
        CHECK.due("odds(4, 1) by hand", x.odds(4, 1), 25);
        CHECK.due("odds(0, 0) by hand", x.odds(0, 0), 1);
        CHECK.due("odds(0, 1) by hand", x.odds(0, 1), 1);
        CHECK.due("odds(10, 0) by hand", x.odds(10, 0), 0);
        CHECK.due("odds(10, 1) by hand", x.odds(10, 1), 1);
        CHECK.due("odds(11, 0)", x.odds(11, 0), GateChain.BAD);
        CHECK.due("odds(5, 2)", x.odds(5, 2), GateChain.BAD);
        for (int s : STRANGE) {
            CHECK.due("odds(" + s + ", 0)", x.odds(s, 0), GateChain.BAD);
            CHECK.due("odds(5, " + s + ")", x.odds(5, s), GateChain.BAD);
        }
        GateChain y = Check.told("n2;l1;l2;l3;k0 0;k1 1;");
        y.opens(0, 0);
        y.shuts(2, 0);
        CHECK.due("odds(5, 1) where one is shut out", y.odds(5, 1), 2);
    }

    private static void fraction(GateChain x, int tenths, int getIn) {
        java.math.BigInteger lower = java.math.BigInteger.TEN.pow(getIn);
        java.math.BigInteger upper = lower.subtract(java.math.BigInteger.valueOf(tenths).pow(getIn));
        java.math.BigInteger divisor = lower.gcd(upper);
        String call = "odds(" + tenths + ") of " + getIn;
        CHECK.due(call + " upper", x.odds(tenths, 0), upper.divide(divisor).intValue());
        CHECK.due(call + " lower", x.odds(tenths, 1), lower.divide(divisor).intValue());
    }
}
