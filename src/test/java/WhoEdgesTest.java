/** The document's edges, a test for each sentence: who gets in, wheels, odds, and promises 15 to 18. */
public final class WhoEdgesTest {
    private static final Check CHECK = new Check();
    private static final int BAD = GateChain.BAD, NONE = GateChain.NONE;
    private static final String EIGHT = "l1;l2;l3;l4;l5;l6;l7;l8;";

    public static void main(String[] args) {
        nothingIsChanged();
        getsInByTheRingAlone();
        leftByOneOnWhichItCanBeShut();
        leftWhoGetInNow();
        worstIsTheLowestOfSeveral();
        worstOfNoneLeft();
        jamIsMoreThanSoMany();
        jamOfSeveralSetsTheLeast();
        jamOfTheRingAlone();
        roundsFromThoseWhoGetIn();
        roundsOfNobody();
        stepsOverTheEnd();
        nearIsStepsAtMost();
        oddsOfEachTenth();
        oddsOfNobody();
        oddsForEachHimself();
        left();
        jam();
        near();
        odds();
        CHECK.end();
    }

    private static void nothingIsChanged() {
        CHECK.sentence("(Nothing is changed.)");
        String told = "n3;l123;l45;l900;l7;k0 0;k0 1;k1 2;k2 3;f0 1;";
        GateChain asked = Check.told(told);
        GateChain other = Check.told(told);
        for (GateChain x : new GateChain[] {asked, other}) {
            x.opens(0, 0);
            x.shuts(2, 5);
            x.opens(0, 0);
            x.keep(1);
            x.hears(500, 1);
        }
        for (int i = 0; i < 8; i++) {
            asked.left(i);
            asked.jam(i);
            asked.near(i, i + i);
            asked.odds(i, i % 2);
            asked.codes(i % 2);
            asked.now(i);
        }
        asked.ask();
        CHECK.same("all behind the questions", Drain.all(asked), Drain.all(other));
    }

    private static void getsInByTheRingAlone() {
        CHECK.sentence("GETS IN: a PERSON who KNOWS a LOCK of THE RING.");
        GateChain x = Check.told("l1;l2;l3;k0 0;k1 1;k0 1;");
        CHECK.due("now(2)", x.now(2), 3);
        CHECK.due("person(2, 2), who knows none", x.person(2, 2), 0);
        x.opens(0, 0);
        CHECK.due("now(2), the gate open", x.now(2), 3);
        x.shuts(2, 0);
        CHECK.due("now(2), one beside", x.now(2), 1);
        CHECK.due("person(1, 2), who knows one beside", x.person(1, 2), 0);
        CHECK.due("person(1, 0), who knows one beside", x.person(1, 0), 2);
        CHECK.due("now(2) of no locks", new GateChain().now(2), 0);
    }

    private static void leftByOneOnWhichItCanBeShut() {
        CHECK.sentence("LEFT by a LOCK on which it can be SHUT (the gate being OPEN)");
        GateChain x = Check.told("l1;l2;l3;l4;k0 0;k1 1;k2 2;");
        for (int l = 0; l < 4; l++) {
            CHECK.due("left(" + l + "), the gate shut", x.left(l), NONE);
        }
        x.opens(0, 0);
        x.shuts(2, 0);
        x.opens(2, 2);
        int[] left = {0, NONE, NONE, 0};
        for (int l = 0; l < 4; l++) {
            CHECK.due("left(" + l + ")", x.left(l), left[l]);
        }
        GateChain y = Check.told("l1;k0 0;");
        CHECK.due("left(0) alone, the gate shut", y.left(0), NONE);
        y.opens(0, 0);
        CHECK.due("left(0) alone", y.left(0), 0);
    }

    private static void leftWhoGetInNow() {
        CHECK.sentence("PERSONS (bits) who GET IN now and would not then; NONE (it can't).");
        GateChain x = Check.told("n6;l1;l2;l3;l4;k0 3;k1 0;k2 1;k3 2;k4 0;k4 3;k5 1;");
        x.opens(0, 3);
        int[] left = {0, 1 << 1, 1 << 1 | 1 << 2 | 1 << 5, NONE};
        for (int l = 0; l < 4; l++) {
            CHECK.due("left(" + l + ")", x.left(l), left[l]);
        }
        CHECK.due("shuts(1, 0)", x.shuts(1, 0), 1);
        CHECK.due("now(2)", x.now(2), 63 & ~(1 << 1));
        x.opens(0, 3);
        CHECK.due("left(2), of whom one does not get in already", x.left(2), 1 << 2 | 1 << 5);
    }

    private static void worstIsTheLowestOfSeveral() {
        CHECK.sentence("WORST: that LOCK by which most are LEFT, of several the lowest; NONE (the gate is SHUT).");
        GateChain x = Check.told("n4;" + EIGHT + "k0 4;k1 5;k2 7;k3 2;");
        CHECK.due("now(3), the gate shut", x.now(3), NONE);
        x.opens(0, 4);
        int[] left = {6, 6, 6, 14, NONE, 0, 2, 2};
        for (int l = 0; l < 8; l++) {
            CHECK.due("left(" + l + ")", x.left(l), left[l]);
        }
        CHECK.due("now(3)", x.now(3), 3);
        x.shuts(2, 0);
        x.opens(0, 4);
        CHECK.due("now(3) of 2 and 3", x.now(3), 3);
        GateChain y = Check.told("n2;" + EIGHT + "k0 4;k1 5;");
        y.opens(0, 4);
        CHECK.due("now(3): 0, 1, 2, 3, 6, 7 leave one", y.now(3), 0);
        y.shuts(5, 0);
        y.tries(0, 1);
        CHECK.due("now(3) at 0: 6 and 7 leave two", y.now(3), 6);
    }

    private static void worstOfNoneLeft() {
        CHECK.sentence("of several the lowest");
        GateChain x = Check.told("l1;l2;l3;k0 0;k0 1;k0 2;");
        x.opens(0, 0);
        CHECK.due("now(3), none left, 0 open", x.now(3), 1);
        x.shuts(1, 0);
        x.opens(0, 1);
        CHECK.due("now(3), none left, 1 open", x.now(3), 0);
        GateChain y = Check.told("l1;");
        y.tries(0, 1);
        CHECK.due("now(3) alone, whom nobody knows", y.now(3), 0);
    }

    private static void jamIsMoreThanSoMany() {
        CHECK.sentence("the fewest PERSONS (bits, of several sets the least) who KNOW more than r LOCKS of THE RING together");
        String known = "";
        for (int locks = 0; locks <= 8; locks++) {
            GateChain x = Check.told("n2;" + EIGHT + known);
            for (int r = 0; r < 8; r++) {
                CHECK.due("jam(" + r + ") of " + locks + " known", x.jam(r), locks > r ? 2 : NONE);
            }
            known = known.concat("k1 " + locks % 8 + ";");
        }
        GateChain x = Check.told("n6;" + EIGHT + "k0 0;k1 1;k2 2;k3 3;k4 4;k5 5;k5 6;k5 7;");
        int[] sets = {1, 32, 32, 33, 35, 39, 47, 63};
        for (int r = 0; r < 8; r++) {
            CHECK.due("jam(" + r + ")", x.jam(r), sets[r]);
        }
        CHECK.due("jam(2): one is fewer than a lesser set of three",
                Check.told("n4;l1;l2;l3;k0 0;k1 1;k2 2;k3 0;k3 1;k3 2;").jam(2), 8);
        CHECK.due("jam(1): what two know alike counts once", Check.told("n2;l1;l2;k0 0;k1 0;").jam(1), NONE);
    }

    private static void jamOfSeveralSetsTheLeast() {
        CHECK.sentence("of several sets the least");
        CHECK.due("jam(3) of 9 and 6", Check.told("n4;l1;l2;l3;l4;k0 0;k3 1;k3 2;k3 3;k1 0;k1 1;k2 2;k2 3;").jam(3), 6);
        CHECK.due("jam(0) of all six", Check.told("n6;l1;k0 0;k1 0;k2 0;k3 0;k4 0;k5 0;").jam(0), 1);
        CHECK.due("jam(0) of 3 and 5", Check.told("n6;l1;k3 0;k5 0;").jam(0), 8);
    }

    private static void jamOfTheRingAlone() {
        CHECK.sentence("LOCKS of THE RING together; NONE.");
        GateChain x = Check.told("n2;l1;l2;l3;l4;k0 0;k1 1;k1 2;");
        CHECK.due("jam(1)", x.jam(1), 2);
        x.opens(0, 0);
        x.shuts(2, 0);
        CHECK.due("jam(0), one beside", x.jam(0), 1);
        CHECK.due("jam(1), one beside", x.jam(1), 3);
        CHECK.due("jam(2), one beside", x.jam(2), NONE);
        x.opens(0, 0);
        x.shuts(3, 0);
        CHECK.due("jam(1), two beside", x.jam(1), NONE);
    }

    private static void roundsFromThoseWhoGetIn() {
        CHECK.sentence("behind how many rounds he GETS IN (0: he does now); NONE.");
        GateChain x = Check.told("n6;l1;k5 0;f5 4;f3 4;f3 2;f1 2;f0 1;");
        for (int p = 0; p < 6; p++) {
            CHECK.due("person(" + p + ", 3) of a row", x.person(p, 3), 5 - p);
        }
        CHECK.due("now(4) of a row", x.now(4), 5);
        GateChain y = Check.told("n6;l1;k0 0;k3 0;f0 1;f1 2;f2 3;f3 4;");
        int[] rounds = {0, 1, 1, 0, 1, NONE};
        for (int p = 0; p < 6; p++) {
            CHECK.due("person(" + p + ", 3) from both ends", y.person(p, 3), rounds[p]);
        }
        CHECK.due("now(4) where one never does", y.now(4), NONE);
        GateChain z = Check.told("n4;l1;k0 0;f0 1;f1 2;f2 3;f3 0;");
        CHECK.due("person(3, 3) of a circle", z.person(3, 3), 1);
        CHECK.due("person(2, 3) of a circle", z.person(2, 3), 2);
    }

    private static void roundsOfNobody() {
        CHECK.sentence("if all who GET IN tell all their FRIENDS, round by round");
        GateChain x = Check.told("n3;l1;l2;l3;k0 0;k1 1;f1 2;");
        CHECK.due("person(2, 3)", x.person(2, 3), 1);
        x.opens(0, 0);
        x.shuts(2, 0);
        CHECK.due("person(1, 3), who knows one beside", x.person(1, 3), NONE);
        CHECK.due("person(2, 3), whose friend does not get in", x.person(2, 3), NONE);
        CHECK.due("person(0, 3)", x.person(0, 3), 0);
        GateChain y = Check.told("n6;l1;f0 1;f1 2;f2 3;f3 4;f4 5;f5 0;");
        for (int p = 0; p < 6; p++) {
            CHECK.due("person(" + p + ", 3) where nobody gets in", y.person(p, 3), NONE);
        }
    }

    private static void stepsOverTheEnd() {
        CHECK.sentence("turned a figure up or down (9 and 0 are side by side)");
        int[] apart = {0, 1, 2, 3, 4, 5, 4, 3, 2, 1};
        GateChain x = Check.told("l0;l99;l555;");
        for (int figure = 0; figure < 10; figure++) {
            for (int unit = 1; unit <= 100; unit *= 10) {
                int shown = figure * unit;
                if (shown > 0) {
                    CHECK.due("tries(0, " + shown + ")", x.tries(0, shown), 2);
                    CHECK.due("lock(0, 5) of " + shown, x.lock(0, 5), apart[figure]);
                }
            }
        }
        x.tries(1, 100);
        CHECK.due("lock(1, 5): wheels turn each for itself", x.lock(1, 5), 3);
        CHECK.due("lock(2, 5), the furthest", x.lock(2, 5), 15);
        x.tries(2, 999);
        CHECK.due("lock(2, 5) of 999", x.lock(2, 5), 12);
        x.tries(2, 555);
        CHECK.due("lock(2, 5) of 555", x.lock(2, 5), 0);
    }

    private static void nearIsStepsAtMost() {
        CHECK.sentence("NEAR n (0 .. 15) of a LOCK: how many numbers are n STEPS at most from what it SHOWS.");
        for (int shown : new int[] {0, 999, 555, 90, 459}) {
            GateChain x = Check.told("l1;");
            x.tries(0, shown);
            int all = 0;
            for (int n = 0; n <= 15; n++) {
                int within = ByHand.within(shown, n);
                CHECK.due("near(0, " + n + ") of " + shown, x.near(0, n), within);
                CHECK.due("more numbers at " + n, within > all ? 1 : 0, 1);
                all = within;
            }
            CHECK.due("near(0, 0) by hand", x.near(0, 0), 1);
            CHECK.due("near(0, 1) by hand", x.near(0, 1), 1 + 6);
            CHECK.due("near(0, 2) by hand", x.near(0, 2), 1 + 6 + 6 + 12);
            CHECK.due("near(0, 14) by hand", x.near(0, 14), 999);
            CHECK.due("near(0, 15) by hand", x.near(0, 15), 1000);
        }
    }

    private static void oddsOfEachTenth() {
        CHECK.sentence("ODDS by x (0 .. 10): each PERSON has forgotten all that he KNOWS by x of 10, for himself");
        GateChain one = Check.told("n1;l1;k0 0;");
        int[] upper = {1, 9, 4, 7, 3, 1, 2, 3, 1, 1, 0};
        int[] lower = {1, 10, 5, 10, 5, 2, 5, 10, 5, 10, 1};
        for (int x = 0; x <= 10; x++) {
            CHECK.due("odds(" + x + ", 0)", one.odds(x, 0), upper[x]);
            CHECK.due("odds(" + x + ", 1)", one.odds(x, 1), lower[x]);
        }
        GateChain six = Check.told("n6;l1;k0 0;k1 0;k2 0;k3 0;k4 0;k5 0;");
        CHECK.due("odds(9, 0) of six", six.odds(9, 0), 468559);
        CHECK.due("odds(9, 1) of six", six.odds(9, 1), 1000000);
        CHECK.due("odds(1, 0) of six", six.odds(1, 0), 999999);
        CHECK.due("odds(5, 0) of six", six.odds(5, 0), 63);
        CHECK.due("odds(5, 1) of six", six.odds(5, 1), 64);
        CHECK.due("odds(0, 0) of six", six.odds(0, 0), 1);
        CHECK.due("odds(0, 1) of six", six.odds(0, 1), 1);
        CHECK.due("odds(10, 0) of six", six.odds(10, 0), 0);
        CHECK.due("odds(10, 1) of six", six.odds(10, 1), 1);
    }

    private static void oddsOfNobody() {
        CHECK.sentence("that one at least GETS IN: a fraction.");
        for (GateChain nobody : new GateChain[] {new GateChain(), Check.told("n6;l1;f0 1;")}) {
            for (int x = 0; x <= 10; x++) {
                CHECK.due("odds(" + x + ", 0) of nobody", nobody.odds(x, 0), 0);
                CHECK.due("odds(" + x + ", 1) of nobody", nobody.odds(x, 1), 1);
            }
        }
    }

    private static void oddsForEachHimself() {
        CHECK.sentence("for himself");
        GateChain x = Check.told("n3;l1;l2;l3;k0 0;k0 1;k0 2;k1 1;");
        CHECK.due("odds(3, 0) of two, who know four", x.odds(3, 0), 91);
        CHECK.due("odds(3, 1) of two, who know four", x.odds(3, 1), 100);
        x.opens(0, 0);
        x.shuts(2, 0);
        CHECK.due("odds(3, 0), one knows but one beside", x.odds(3, 0), 7);
        CHECK.due("odds(3, 1), one knows but one beside", x.odds(3, 1), 10);
    }

    // ---- promises 15 to 18

    private static void left() {
        CHECK.sentence("LEFT, as bits; NONE. BAD.");
        GateChain x = Check.told("n6;" + EIGHT + "k0 0;k1 1;k2 2;k3 3;k4 4;k5 5;");
        x.opens(0, 0);
        for (int l = 0; l < 8; l++) {
            CHECK.due("left(" + l + ")", x.left(l), l == 0 ? NONE : Math.min(62, (1 << l) - 2));
        }
        CHECK.due("left(8)", x.left(8), BAD);
        for (int far : Check.FAR) {
            CHECK.due("left(" + far + ")", x.left(far), BAD);
        }
        CHECK.due("left(1) where there is one lock", Check.told("l1;").left(1), BAD);
    }

    private static void jam() {
        CHECK.sentence("JAM, as bits; NONE. BAD.");
        CHECK.sentence("JAM r (0 .. 7)");
        GateChain x = Check.told("n6;" + EIGHT + "k5 0;");
        CHECK.due("jam(0)", x.jam(0), 32);
        CHECK.due("jam(1)", x.jam(1), NONE);
        CHECK.due("jam(7)", x.jam(7), NONE);
        CHECK.due("jam(8)", x.jam(8), BAD);
        for (int far : Check.FAR) {
            CHECK.due("jam(" + far + ")", x.jam(far), BAD);
        }
        GateChain none = new GateChain();
        CHECK.due("jam(7) without locks", none.jam(7), NONE);
        CHECK.due("jam(8) without locks", none.jam(8), BAD);
    }

    private static void near() {
        CHECK.sentence("NEAR. BAD.");
        GateChain x = Check.told("l1;l2;");
        CHECK.due("near(1, 0)", x.near(1, 0), 1);
        CHECK.due("near(1, 15)", x.near(1, 15), 1000);
        CHECK.due("near(1, 16)", x.near(1, 16), BAD);
        CHECK.due("near(2, 0)", x.near(2, 0), BAD);
        for (int far : Check.FAR) {
            CHECK.due("near(" + far + ", 0)", x.near(far, 0), BAD);
            CHECK.due("near(0, " + far + ")", x.near(0, far), BAD);
        }
    }

    private static void odds() {
        CHECK.sentence("ODDS: upper (what = 0), lower number (1), in least terms. BAD.");
        GateChain x = Check.told("l1;k0 0;k1 0;k2 0;");
        CHECK.due("odds(4, 0): 936 of 1000", x.odds(4, 0), 117);
        CHECK.due("odds(4, 1): 936 of 1000", x.odds(4, 1), 125);
        CHECK.due("odds(11, 0)", x.odds(11, 0), BAD);
        CHECK.due("odds(0, 2)", x.odds(0, 2), BAD);
        CHECK.due("odds(11, 2)", x.odds(11, 2), BAD);
        for (int far : Check.FAR) {
            CHECK.due("odds(" + far + ", 1)", x.odds(far, 1), BAD);
            CHECK.due("odds(10, " + far + ")", x.odds(10, far), BAD);
        }
    }
}
