/** The document's edges, a test for each sentence: what was heard, and promises 19 to 22. */
public final class HeardEdgesTest {
    private static final Check CHECK = new Check();
    private static final int BAD = GateChain.BAD, FULL = GateChain.FULL, NONE = GateChain.NONE;

    public static void main(String[] args) {
        fourAreHeardAtMost();
        numbersAndWheelsHeard();
        codesThatAgreeWithAll();
        codesOfNone();
        askOfTwo();
        askOfFewerThanTwo();
        askOfMoreThan250();
        askOfSeveralTheLeast();
        askMayBeOneThatCanNotBe();
        hears();
        forget();
        codes();
        ask();
        CHECK.end();
    }

    /** A new object that has heard numbers and how many wheels were right, by turns. */
    private static GateChain heard(int... all) {
        GateChain x = new GateChain();
        for (int i = 0; i + 1 < all.length; i += 2) {
            x.hears(all[i], all[i + 1]);
        }
        return x;
    }

    private static void fourAreHeardAtMost() {
        CHECK.sentence("HEARD (4 at most)");
        GateChain x = new GateChain();
        for (int i = 1; i <= 4; i++) {
            CHECK.due("hears " + i, x.hears(i, 0), i);
        }
        int codes = x.codes(0);
        CHECK.due("hears a fifth", x.hears(123, 3), FULL);
        CHECK.due("count(2)", x.count(2), 4);
        CHECK.due("codes(0), the fifth not heard", x.codes(0), codes);
        GateChain y = heard(5, 1, 5, 1, 5, 1, 5, 1);
        CHECK.due("count(2) of the same four times", y.count(2), 4);
        CHECK.due("hears the same a fifth time", y.hears(5, 1), FULL);
    }

    private static void numbersAndWheelsHeard() {
        CHECK.sentence("by a number (0 .. 999) so many WHEELS were right (0 .. 3)");
        int[] parts = {729, 243, 27, 1};
        for (int right = 0; right <= 3; right++) {
            for (int code : new int[] {0, 5, 50, 999}) {
                GateChain x = heard(code, right);
                CHECK.due("codes(0) of " + code + ", " + right, x.codes(0), parts[right]);
            }
        }
        GateChain x = new GateChain();
        CHECK.due("hears(-1, 0)", x.hears(-1, 0), BAD);
        CHECK.due("hears(1000, 0)", x.hears(1000, 0), BAD);
        CHECK.due("hears(0, -1)", x.hears(0, -1), BAD);
        CHECK.due("hears(0, 4)", x.hears(0, 4), BAD);
        CHECK.due("count(2)", x.count(2), 0);
    }

    private static void codesThatAgreeWithAll() {
        CHECK.sentence("CODES: how many numbers there are by which all that was HEARD is so; the least; NONE.");
        GateChain x = new GateChain();
        CHECK.due("codes(0) of nothing heard", x.codes(0), 1000);
        CHECK.due("codes(1) of nothing heard", x.codes(1), 0);
        int[][] heard = {{0, 0}, {111, 1}, {122, 2}, {123, 3}};
        int[] many = {9 * 9 * 9, 3 * 8 * 8, 2 * 7, 1};
        int[] least = {111, 122, 123, 123};
        for (int i = 0; i < 4; i++) {
            x.hears(heard[i][0], heard[i][1]);
            CHECK.due("codes(0) of " + (i + 1) + " heard", x.codes(0), many[i]);
            CHECK.due("codes(1) of " + (i + 1) + " heard", x.codes(1), least[i]);
        }
        CHECK.due("codes(1), the greatest", heard(999, 3).codes(1), 999);
        CHECK.due("codes(1), with 0s ahead", heard(7, 3).codes(1), 7);
    }

    private static void codesOfNone() {
        CHECK.sentence("CODES: how many (what = 0), the least (1); NONE. BAD.");
        for (GateChain x : new GateChain[] {heard(5, 3, 6, 3), heard(5, 3, 5, 0), heard(0, 1, 0, 2), heard(1, 0, 1, 3)}) {
            CHECK.due("codes(0) where none can be", x.codes(0), 0);
            CHECK.due("codes(1) where none can be", x.codes(1), NONE);
            CHECK.due("ask() where none can be", x.ask(), NONE);
            CHECK.due("forget()", x.forget(), 2);
            CHECK.due("codes(0) behind forget()", x.codes(0), 1000);
            CHECK.due("codes(1) behind forget()", x.codes(1), 0);
        }
    }

    private static void askOfTwo() {
        CHECK.sentence("NONE (fewer than 2, more than 250)");
        GateChain x = heard(0, 2, 11, 2);
        CHECK.due("codes(0) of 001 and 010", x.codes(0), 2);
        CHECK.due("codes(1) of 001 and 010", x.codes(1), 1);
        CHECK.due("ask() of 001 and 010: 001 is right by 3 and by 1", x.ask(), 1);
    }

    private static void askOfFewerThanTwo() {
        CHECK.sentence("(fewer than 2,");
        CHECK.due("ask() of one", heard(123, 3).ask(), NONE);
        CHECK.due("ask() of one, 000", heard(0, 3).ask(), NONE);
        CHECK.due("ask() of none", heard(0, 3, 0, 2).ask(), NONE);
    }

    /** No run of up to four leaves 244 to 251 codes: 243 and 252 are the nearest to the bound. */
    private static void askOfMoreThan250() {
        CHECK.sentence("more than 250)");
        CHECK.due("ask() of 1000", new GateChain().ask(), NONE);
        CHECK.due("ask() of 729", heard(0, 0).ask(), NONE);
        GateChain more = heard(0, 0, 11, 0, 122, 0, 233, 0);
        CHECK.due("codes(0), just more", more.codes(0), 252);
        CHECK.due("ask(), just more", more.ask(), NONE);
        GateChain fewer = heard(0, 1);
        CHECK.due("codes(0), just fewer", fewer.codes(0), 243);
        CHECK.due("ask(), just fewer", fewer.ask(), ByHand.question(new int[][] {{0, 1}}));
        CHECK.due("numbers left between 244 and 251", leftBetween(244, 251), 0);
    }

    /**
     * How many ways of hearing leave from low to high codes. Only which of the four numbers are alike at a wheel
     * matters, so each wheel has one of the 15 ways to part four into groups.
     */
    private static int leftBetween(int low, int high) {
        int[] parts = {0, 1, 10, 11, 12, 100, 101, 102, 110, 111, 112, 120, 121, 122, 123};
        int found = 0;
        for (int a = 0; a < 15; a++) {
            for (int b = a; b < 15; b++) {
                for (int c = b; c < 15; c++) {
                    for (int many : counts(parts[a], parts[b], parts[c])) {
                        found += many >= low && many <= high ? 1 : 0;
                    }
                }
            }
        }
        return found;
    }

    private static int[] counts(int hundreds, int tens, int ones) {
        int[] counts = new int[256];
        for (int code = 0; code < 1000; code++) {
            int answers = 0;
            for (int unit = 1; unit <= 1000; unit *= 10) {
                int number = hundreds / unit % 10 * 100 + tens / unit % 10 * 10 + ones / unit % 10;
                answers = answers * 4 + ByHand.right(code, number);
            }
            counts[answers]++;
        }
        return counts;
    }

    private static void askOfSeveralTheLeast() {
        CHECK.sentence("the greatest part of these is least, of several the least");
        int[][][] all = {
            {{0, 1}}, {{999, 1}}, {{500, 1}}, {{999, 2}}, {{0, 2}}, {{555, 2}}, {{500, 1}, {555, 1}},
            {{500, 1}, {555, 1}, {5, 0}}, {{999, 2}, {990, 2}}, {{0, 0}, {111, 0}, {222, 0}}, {{987, 0}, {654, 1}},
            {{987, 0}, {654, 0}, {321, 0}, {100, 1}}, {{0, 2}, {11, 2}}, {{989, 2}, {998, 2}},
            {{328, 2}, {321, 2}, {612, 0}, {99, 0}}, {{810, 0}, {890, 1}, {878, 1}, {957, 0}},
            {{653, 0}, {696, 2}, {915, 0}}, {{506, 2}, {996, 1}, {703, 0}, {287, 0}},
        };
        for (int[][] heard : all) {
            GateChain x = new GateChain();
            for (int[] h : heard) {
                x.hears(h[0], h[1]);
            }
            int best = ByHand.question(heard);
            CHECK.due("ask() of " + java.util.Arrays.deepToString(heard), x.ask(), best);
            CHECK.due("ask() again", x.ask(), best);
            CHECK.due("count(2) behind ask()", x.count(2), heard.length);
        }
    }

    private static void askMayBeOneThatCanNotBe() {
        CHECK.sentence("ASK: the number (0 .. 999) by which, by how many WHEELS are right");
        GateChain x = heard(500, 1);
        CHECK.due("codes(1) of 243", x.codes(1), 1);
        CHECK.due("ask() of 243: 0, of which two wheels are as in 500", x.ask(), 0);
        GateChain y = heard(0, 0, 111, 0, 222, 0, 333, 0);
        CHECK.due("codes(0) of 216", y.codes(0), 216);
        CHECK.due("ask() of 216", y.ask(), ByHand.question(new int[][] {{0, 0}, {111, 0}, {222, 0}, {333, 0}}));
    }

    // ---- promises 19 to 22

    private static void hears() {
        CHECK.sentence("HEARD: how much there is. BAD; FULL.");
        GateChain x = new GateChain();
        for (int far : Check.FAR) {
            CHECK.due("hears(" + far + ", 0)", x.hears(far, 0), BAD);
            CHECK.due("hears(0, " + far + ")", x.hears(0, far), BAD);
        }
        CHECK.due("hears(999, 3)", x.hears(999, 3), 1);
        CHECK.due("hears(0, 0)", x.hears(0, 0), 2);
        CHECK.due("hears(5, 0)", x.hears(5, 0), 3);
        CHECK.due("hears(6, 0)", x.hears(6, 0), 4);
        CHECK.due("hears(7, 0)", x.hears(7, 0), FULL);
        CHECK.due("hears(1000, 0), BAD ahead of FULL", x.hears(1000, 0), BAD);
        CHECK.due("hears(7, 4), BAD ahead of FULL", x.hears(7, 4), BAD);
        CHECK.due("codes(1)", x.codes(1), 999);
    }

    private static void forget() {
        CHECK.sentence("Nothing was HEARD: how much was.");
        GateChain x = new GateChain();
        CHECK.due("forget() of nothing", x.forget(), 0);
        for (int many = 1; many <= 4; many++) {
            for (int i = 0; i < many; i++) {
                x.hears(i, 0);
            }
            CHECK.due("forget() of " + many, x.forget(), many);
            CHECK.due("count(2) behind it", x.count(2), 0);
            CHECK.due("codes(0) behind it", x.codes(0), 1000);
            CHECK.due("ask() behind it", x.ask(), NONE);
            CHECK.due("forget() again", x.forget(), 0);
        }
        CHECK.due("hears behind forget()", x.hears(5, 3), 1);
        CHECK.due("codes(1) behind that", x.codes(1), 5);
    }

    private static void codes() {
        CHECK.sentence("CODES: how many (what = 0), the least (1); NONE. BAD.");
        GateChain x = heard(998, 2);
        CHECK.due("codes(0)", x.codes(0), 27);
        CHECK.due("codes(1)", x.codes(1), 98);
        CHECK.due("codes(2)", x.codes(2), BAD);
        for (int far : Check.FAR) {
            CHECK.due("codes(" + far + ")", x.codes(far), BAD);
        }
    }

    private static void ask() {
        CHECK.sentence("ASK; NONE.");
        GateChain x = Check.told("l123;k0 0;");
        CHECK.due("ask() of nothing heard", x.ask(), NONE);
        x.hears(0, 2);
        CHECK.due("ask() of 27", x.ask(), ByHand.question(new int[][] {{0, 2}}));
        x.hears(1, 3);
        CHECK.due("ask() of one", x.ask(), NONE);
        x.forget();
        CHECK.due("ask() of nothing heard again", x.ask(), NONE);
    }
}
