/** Promises 7 to 14: what is done, undone, and how it stands now. */
public final class DeedsTest {
    private static final Check CHECK = new Check();
    private static final String FOUR = "n3;l123;l45;l900;l7;k0 0;k0 1;k1 2;k2 3;f0 1;";

    public static void main(String[] args) {
        opens();
        shuts();
        hangs();
        tells();
        changes();
        tries();
        undo();
        now();
        CHECK.end();
    }

    /** A call that is refused leaves all as it was, how many may be undone too (RefusedTest looks deeper). */
    private static void refused(GateChain x, String call, int got, int want, String before) {
        CHECK.due(call, got, want);
        CHECK.same(call, look(x), before);
    }

    private static void opens() {
        GateChain x = Check.told(FOUR);
        String before = look(x);
        refused(x, "opens one not known", x.opens(1, 0), GateChain.STATE, before);
        CHECK.due("opens(0, 0)", x.opens(0, 0), 4);
        CHECK.due("now(0) behind opens", x.now(0), 0);
        CHECK.due("lock(0, 1) behind opens", x.lock(0, 1), 123);
        CHECK.due("lock(1, 1) behind opens", x.lock(1, 1), 0);
        before = look(x);
        refused(x, "opens when open", x.opens(0, 1), GateChain.STATE, before);
        refused(x, "opens again", x.opens(0, 0), GateChain.STATE, before);
        x.shuts(3, 1);
        before = look(x);
        refused(x, "opens one beside", x.opens(0, 1), GateChain.STATE, before);
        CHECK.due("opens in a ring of 2", x.opens(2, 3), 2);
    }

    private static void shuts() {
        GateChain x = Check.told(FOUR);
        String before = look(x);
        refused(x, "shuts when shut", x.shuts(1, 5), GateChain.STATE, before);
        x.opens(1, 2);
        before = look(x);
        refused(x, "shuts on itself", x.shuts(2, 5), GateChain.STATE, before);
        CHECK.due("shuts(1, 5) over the end", x.shuts(1, 5), 2);
        CHECK.due("ring behind it", x.now(1), 6);
        CHECK.due("lock(2, 4)", x.lock(2, 4), 1);
        CHECK.due("lock(1, 4)", x.lock(1, 4), 2);
        CHECK.due("lock(2, 1)", x.lock(2, 1), 5);
        CHECK.due("lock(1, 1)", x.lock(1, 1), 0);
        CHECK.due("now(0) behind shuts", x.now(0), GateChain.NONE);
        x.opens(1, 2);
        before = look(x);
        refused(x, "shuts on one beside", x.shuts(0, 5), GateChain.STATE, before);
        CHECK.due("shuts on the next", x.shuts(1, 900), 0);
        GateChain y = Check.told("l1;k0 0;");
        y.opens(0, 0);
        CHECK.due("shuts on itself, alone", y.shuts(0, 999), 0);
        CHECK.due("lock(0, 4) alone", y.lock(0, 4), 0);
        CHECK.due("lock(0, 1) alone", y.lock(0, 1), 999);
        GateChain z = Check.told("l1;l2;l3;l4;l5;l6;l7;l8;k0 3;");
        z.opens(0, 3);
        CHECK.due("shuts on the one ahead", z.shuts(2, 0), 6);
        CHECK.due("now(1) behind it", z.now(1), 12);
    }

    private static void hangs() {
        GateChain x = Check.told(FOUR);
        x.opens(0, 0);
        x.shuts(3, 0);
        String before = look(x);
        refused(x, "hangs when shut", x.hangs(1, 2), GateChain.STATE, before);
        x.opens(2, 3);
        before = look(x);
        refused(x, "hangs one of the ring", x.hangs(0, 0), GateChain.STATE, before);
        refused(x, "hangs one not known", x.hangs(1, 1), GateChain.STATE, before);
        CHECK.due("hangs(0, 1)", x.hangs(0, 1), 3);
        CHECK.due("lock(3, 4)", x.lock(3, 4), 1);
        CHECK.due("lock(1, 4)", x.lock(1, 4), 0);
        CHECK.due("hangs(1, 2)", x.hangs(1, 2), 4);
        int[] behind = {3, 0, 1, 2};
        for (int l = 0; l < 4; l++) {
            CHECK.due("lock(" + l + ", 4) hung in anew", x.lock(l, 4), behind[l]);
        }
        CHECK.due("now(0) behind hangs", x.now(0), 3);
        CHECK.due("lock(1, 1) behind hangs", x.lock(1, 1), 0);
        GateChain y = Check.told("l1;l2;k0 0;k0 1;l3;");
        y.opens(0, 0);
        y.shuts(2, 0);
        CHECK.due("tries(0, 1)", y.tries(0, 1), 3);
        CHECK.due("hangs where the gate was opened by a try", y.hangs(0, 1), 3);
    }

    private static void tells() {
        GateChain x = Check.told(FOUR);
        String before = look(x);
        refused(x, "tells what he does not know", x.tells(1, 2, 0), GateChain.STATE, before);
        refused(x, "tells himself", x.tells(0, 0, 0), GateChain.BAD, before);
        CHECK.due("tells(0, 2, 1)", x.tells(0, 2, 1), 2);
        CHECK.due("lock(1, 2)", x.lock(1, 2), 5);
        CHECK.due("person(2, 0)", x.person(2, 0), 10);
        before = look(x);
        refused(x, "tells again", x.tells(0, 2, 1), GateChain.STATE, before);
        CHECK.due("tells on", x.tells(2, 1, 1), 3);
        x.opens(0, 0);
        x.shuts(2, 0);
        CHECK.due("tells of one beside, shut, is known", x.tells(0, 1, 1), GateChain.STATE);
        x.tries(0, 123);
        CHECK.due("tells when open", x.tells(0, 1, 0), 2);
    }

    private static void changes() {
        GateChain x = Check.told(FOUR);
        String before = look(x);
        refused(x, "changes when shut", x.changes(0, 5), GateChain.STATE, before);
        x.tells(0, 1, 0);
        x.tells(0, 2, 0);
        x.opens(1, 0);
        CHECK.due("changes(2, 5)", x.changes(2, 5), 2);
        CHECK.due("lock(0, 0)", x.lock(0, 0), 5);
        CHECK.due("lock(0, 1)", x.lock(0, 1), 5);
        CHECK.due("lock(0, 2)", x.lock(0, 2), 4);
        CHECK.due("now(0) behind changes", x.now(0), 0);
        before = look(x);
        refused(x, "changes one no longer known", x.changes(0, 6), GateChain.STATE, before);
        CHECK.due("changes to the same", x.changes(2, 5), 0);
        x.shuts(1, 0);
        CHECK.due("tries(0, 123)", x.tries(0, 123), 0);
        CHECK.due("tries(0, 5)", x.tries(0, 5), 3);
    }

    private static void tries() {
        GateChain x = Check.told(FOUR);
        int[][] tried = {{0, 0}, {100, 1}, {321, 1}, {132, 1}, {129, 2}, {23, 2}, {999, 0}};
        for (int[] t : tried) {
            CHECK.due("tries(0, " + t[0] + ")", x.tries(0, t[0]), t[1]);
            CHECK.due("lock(0, 1) behind it", x.lock(0, 1), t[0]);
            CHECK.due("now(0) behind it", x.now(0), GateChain.NONE);
        }
        CHECK.due("tries(3, 7)", x.tries(3, 7), 3);
        CHECK.due("now(0) behind the right one", x.now(0), 3);
        String before = look(x);
        refused(x, "tries when open", x.tries(0, 123), GateChain.STATE, before);
        CHECK.due("shuts(1, 7)", x.shuts(1, 7), 1);
        before = look(x);
        refused(x, "tries one beside", x.tries(0, 123), GateChain.STATE, before);
    }

    private static void undo() {
        GateChain x = Check.told(FOUR);
        CHECK.due("undo() of nothing", x.undo(), GateChain.STATE);
        String[] ahead = new String[16];
        int done = 0;
        for (int deed = 0; deed < 13; deed++) {
            ahead[deed] = deed < 3 ? "lost" : past(x);
            CHECK.due("deed " + deed + " is done", deed(x, deed) >= 0 ? 1 : 0, 1);
            done = Math.min(done + 1, 10);
            CHECK.due("count(3) behind deed " + deed, x.count(3), done);
        }
        for (int back = 12; back >= 3; back--) {
            CHECK.due("undo() of deed " + back, x.undo(), back - 3);
            CHECK.same("undo() of deed " + back, past(x), ahead[back]);
        }
        CHECK.due("undo() of one that is lost", x.undo(), GateChain.STATE);
        CHECK.same("undo() of one that is lost", past(x), ahead[3]);
    }

    private static int deed(GateChain x, int deed) {
        switch (deed) {
            case 0: return x.opens(0, 0);
            case 1: return x.shuts(2, 500);
            case 2: return x.tries(2, 9);
            case 3: return x.tells(0, 1, 1);
            case 4: return x.tries(0, 123);
            case 5: return x.hangs(1, 1);
            case 6: return x.tells(0, 2, 0);
            case 7: return x.changes(2, 888);
            case 8: return x.shuts(3, 17);
            case 9: return x.tries(3, 0);
            case 10: return x.tries(3, 0);
            case 11: return x.opens(2, 0);
            default: return x.hangs(0, 1);
        }
    }

    private static String look(GateChain x) {
        return past(x) + x.count(3);
    }

    /** How all stands, without how many may be undone. */
    private static String past(GateChain x) {
        StringBuilder s = new StringBuilder().append(x.now(0)).append(' ').append(x.now(1)).append(' ');
        for (int l = 0; l < 4; l++) {
            for (int what : new int[] {0, 1, 2, 4}) {
                s.append(x.lock(l, what)).append(' ');
            }
        }
        return s.toString();
    }

    private static void now() {
        GateChain x = Check.told("n4;l1;l2;l3;l4;k0 0;k1 1;k2 2;k2 3;f0 1;f1 3;");
        CHECK.due("now(3) shut", x.now(3), GateChain.NONE);
        CHECK.due("now(4)", x.now(4), 2 - 1);
        x.opens(0, 0);
        CHECK.due("now(0)", x.now(0), 0);
        CHECK.due("now(2)", x.now(2), 7);
        CHECK.due("now(3): 2 and 3 leave one, the lower", x.now(3), 2);
        x.shuts(3, 0);
        CHECK.due("now(1)", x.now(1), 9);
        CHECK.due("now(2) behind shuts", x.now(2), 5);
        CHECK.due("now(4) behind shuts", x.now(4), 2);
        x.opens(0, 0);
        CHECK.due("now(3) where none is left", x.now(3), 3);
        GateChain y = Check.told("n2;l1;k0 0;");
        CHECK.due("now(4) where one never does", y.now(4), GateChain.NONE);
        y.opens(0, 0);
        CHECK.due("now(3) of a lock alone", y.now(3), 0);
        GateChain z = Check.told("n6;l1;k2 0;f2 0;f0 1;f1 3;f3 4;f4 5;");
        CHECK.due("now(4) of a long row", z.now(4), 5);
        CHECK.due("person(5, 3) of a long row", z.person(5, 3), 5);
        for (int what : new int[] {-1, 5, 6, Integer.MAX_VALUE, Integer.MIN_VALUE}) {
            CHECK.due("now(" + what + ")", z.now(what), GateChain.BAD);
        }
    }
}
