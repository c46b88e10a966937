/** The document's edges, a test for each sentence: the ring and promises 7 to 14. */
public final class DeedEdgesTest {
    private static final Check CHECK = new Check();
    private static final int BAD = GateChain.BAD, STATE = GateChain.STATE, NONE = GateChain.NONE;
    private static final String EIGHT = "l1;l2;l3;l4;l5;l6;l7;l8;";
    private static final String FOUR = "n3;l123;l45;l900;l7;k0 0;k0 1;k1 2;k2 3;f0 1;";

    public static void main(String[] args) {
        ringHasAllLocksAtFirst();
        shutAndShowingNoughtsAtFirst();
        withoutLocks();
        openedShowsTheCode();
        shutOnAnother();
        shutOnItselfAlone();
        thoseBetweenHangBeside();
        ringThatWasHungAnew();
        wheelsShowAnotherNumber();
        hungInJustBehind();
        hungInKeepsWhatItShows();
        toldOn();
        changedIsKnownByOneAlone();
        triedByWheels();
        triedRightOpens();
        tenMayBeUndone();
        undoneDeedByDeed();
        doneAgainBehindUndone();
        onlyDeedsAreUndone();
        opensAnswersTheRing();
        shutsAnswersThoseBeside();
        hangsAnswersTheRing();
        tellsAnswersWhoKnow();
        changesAnswersTheOthers();
        triesAnswersWheels();
        undoAnswersHowManyMore();
        nowOfEach();
        CHECK.end();
    }

    private static GateChain locks(int n, String known) {
        return Check.told(EIGHT.substring(0, n * 3).concat(known));
    }

    private static void ring(GateChain x, String when, int... behind) {
        int bits = 0;
        for (int l = 0; l < behind.length; l++) {
            CHECK.due("lock(" + l + ", 4) " + when, x.lock(l, 4), behind[l]);
            CHECK.due("lock(" + l + ", 3) " + when, x.lock(l, 3), behind[l] == NONE ? 0 : 1);
            bits |= behind[l] == NONE ? 0 : 1 << l;
        }
        CHECK.due("now(1) " + when, x.now(1), bits);
    }

    // ---- the ring

    private static void ringHasAllLocksAtFirst() {
        CHECK.sentence("THE RING has all LOCKS at first, in their order; behind the last comes the first");
        for (int n = 0; n <= 8; n++) {
            GateChain x = locks(n, "");
            CHECK.due("now(1) of " + n, x.now(1), (1 << n) - 1);
            for (int l = 0; l < n; l++) {
                CHECK.due("lock(" + l + ", 3) of " + n, x.lock(l, 3), 1);
                CHECK.due("lock(" + l + ", 4) of " + n, x.lock(l, 4), l == n - 1 ? 0 : l + 1);
            }
        }
    }

    private static void shutAndShowingNoughtsAtFirst() {
        CHECK.sentence("the gate is SHUT; each LOCK's WHEELS SHOW 0, 0, 0.");
        GateChain x = Check.told("l0;l999;l0;k0 0;");
        CHECK.due("now(0), though a code is shown", x.now(0), NONE);
        for (int l = 0; l < 3; l++) {
            CHECK.due("lock(" + l + ", 1)", x.lock(l, 1), 0);
        }
        CHECK.due("lock(0, 5) of 000", x.lock(0, 5), 0);
        CHECK.due("lock(1, 5) of 999", x.lock(1, 5), 3);
        CHECK.due("opens(0, 0)", x.opens(0, 0), 3);
    }

    private static void withoutLocks() {
        CHECK.sentence("(Without LOCKS nothing is done but TOLD.)");
        GateChain x = Check.told("n2;f0 1;");
        CHECK.due("opens", x.opens(0, 0), BAD);
        CHECK.due("shuts", x.shuts(0, 0), BAD);
        CHECK.due("hangs", x.hangs(0, 0), BAD);
        CHECK.due("tells of a lock that is not", x.tells(0, 1, 0), BAD);
        CHECK.due("changes", x.changes(0, 0), STATE);
        CHECK.due("tries", x.tries(0, 0), BAD);
        CHECK.due("undo", x.undo(), STATE);
        CHECK.due("count(3)", x.count(3), 0);
        CHECK.due("now(1)", x.now(1), 0);
    }

    private static void openedShowsTheCode() {
        CHECK.sentence("its WHEELS SHOW its CODE; the gate is OPEN AT it.");
        GateChain x = Check.told("l999;l999;l0;k0 1;k0 2;");
        x.opens(0, 1);
        CHECK.due("lock(1, 1)", x.lock(1, 1), 999);
        CHECK.due("lock(1, 5)", x.lock(1, 5), 0);
        CHECK.due("lock(0, 1) of another", x.lock(0, 1), 0);
        CHECK.due("now(0)", x.now(0), 1);
        x.shuts(2, 5);
        x.tries(2, 8);
        x.opens(0, 2);
        CHECK.due("lock(2, 1), tried before", x.lock(2, 1), 0);
        CHECK.due("now(0) again", x.now(0), 2);
    }

    private static void shutOnAnother() {
        CHECK.sentence("SHUT ON another LOCK of THE RING");
        for (int n = 2; n <= 8; n++) {
            GateChain x = locks(n, "k0 1;");
            x.opens(0, 1);
            CHECK.due("shuts on itself, of " + n, x.shuts(1, 0), STATE);
            CHECK.due("left by itself, of " + n, x.left(1), NONE);
        }
        GateChain x = locks(3, "k0 0;");
        x.opens(0, 0);
        x.shuts(2, 0);
        x.opens(0, 0);
        CHECK.due("shuts on one beside", x.shuts(1, 0), STATE);
        CHECK.due("shuts on itself in a ring of two", x.shuts(0, 0), STATE);
        CHECK.due("shuts on the other", x.shuts(2, 0), 0);
        ring(x, "of two", 2, NONE, 0);
    }

    private static void shutOnItselfAlone() {
        CHECK.sentence("(on itself, if it is the only one)");
        GateChain x = locks(1, "k0 0;");
        x.opens(0, 0);
        CHECK.due("left(0)", x.left(0), 0);
        CHECK.due("now(3)", x.now(3), 0);
        CHECK.due("shuts(0, 999)", x.shuts(0, 999), 0);
        ring(x, "alone", 0);
        CHECK.due("lock(0, 1)", x.lock(0, 1), 999);
        CHECK.due("now(0)", x.now(0), NONE);
        CHECK.due("opens again", x.opens(0, 0), 1);
    }

    /** Every ring, opened at each of its locks and shut on each other one, over the end too. */
    private static void thoseBetweenHangBeside() {
        CHECK.sentence("those of THE RING behind the one OPEN AT, ahead of that other one, "
                + "are BESIDE (not of THE RING) from then on");
        for (int n = 2; n <= 8; n++) {
            for (int at = 0; at < n; at++) {
                for (int on = 0; on < n; on++) {
                    if (on != at) {
                        shutBetween(n, at, on);
                    }
                }
            }
        }
    }

    private static void shutBetween(int n, int at, int on) {
        GateChain x = locks(n, "k0 " + at + ";");
        x.opens(0, at);
        int between = Math.floorMod(on - at - 1, n);
        String call = "shuts(" + on + ", 5) at " + at + " of " + n;
        CHECK.due(call, x.shuts(on, 5), between);
        int[] behind = new int[n];
        for (int l = 0; l < n; l++) {
            boolean beside = l != at && Math.floorMod(l - at - 1, n) < between;
            behind[l] = beside ? NONE : l == at ? on : (l + 1) % n;
        }
        ring(x, "behind " + call, behind);
        CHECK.due("now(0) behind " + call, x.now(0), NONE);
        for (int l = 0; l < n; l++) {
            CHECK.due("lock(" + l + ", 1) behind " + call, x.lock(l, 1), l == at ? 5 : 0);
        }
    }

    private static void ringThatWasHungAnew() {
        CHECK.sentence("behind the last comes the first");
        GateChain x = locks(4, "k0 0;k0 1;k0 2;k0 3;");
        x.opens(0, 0);
        x.shuts(3, 0);
        x.opens(0, 3);
        x.hangs(0, 1);
        x.hangs(0, 2);
        ring(x, "hung in at 3", 3, 0, 1, 2);
        CHECK.due("shuts(1, 0) by the ring, not by numbers", x.shuts(1, 0), 1);
        ring(x, "behind it", 3, 0, NONE, 1);
        x.opens(0, 1);
        CHECK.due("shuts(3, 0) over 0", x.shuts(3, 0), 1);
        ring(x, "of two", NONE, 3, NONE, 1);
    }

    private static void wheelsShowAnotherNumber() {
        CHECK.sentence("the WHEELS of the one OPEN AT SHOW another number.");
        GateChain x = locks(2, "k0 1;");
        for (int shown : new int[] {0, 1, 998, 999}) {
            x.opens(0, 1);
            CHECK.due("shuts(0, " + shown + ")", x.shuts(0, shown), 0);
            CHECK.due("lock(1, 1)", x.lock(1, 1), shown);
            CHECK.due("lock(0, 1)", x.lock(0, 1), 0);
        }
        x.opens(0, 1);
        CHECK.due("shuts, its code left as it shows", x.shuts(0, 2), 0);
        CHECK.due("lock(1, 5)", x.lock(1, 5), 0);
        CHECK.due("now(0), though its code is shown", x.now(0), NONE);
    }

    private static void hungInJustBehind() {
        CHECK.sentence("it comes to THE RING, just behind the one OPEN AT.");
        GateChain x = locks(8, "k0 7;k0 0;k0 1;k0 2;k0 3;k0 4;k0 5;");
        x.opens(0, 7);
        CHECK.due("shuts over the end", x.shuts(6, 0), 6);
        x.opens(0, 7);
        int[] order = {3, 0, 5, 1, 4, 2};
        int next = 6;
        for (int i = 0; i < 6; i++) {
            CHECK.due("hangs(0, " + order[i] + ")", x.hangs(0, order[i]), 3 + i);
            CHECK.due("the one behind 7", x.lock(7, 4), order[i]);
            CHECK.due("the one behind " + order[i], x.lock(order[i], 4), next);
            next = order[i];
        }
        ring(x, "of all again", 3, 5, 4, 6, 1, 0, 7, 2);
        CHECK.due("now(0)", x.now(0), 7);
    }

    private static void hungInKeepsWhatItShows() {
        CHECK.sentence("HUNG IN, the gate being OPEN: a LOCK that is BESIDE, by a PERSON who KNOWS it");
        GateChain x = locks(3, "k0 0;k1 1;");
        x.tries(1, 9);
        x.opens(0, 0);
        x.shuts(2, 0);
        CHECK.due("hangs, the gate shut", x.hangs(1, 1), STATE);
        x.tries(2, 3);
        CHECK.due("hangs by one who does not know it", x.hangs(0, 1), STATE);
        CHECK.due("hangs one of the ring", x.hangs(0, 0), STATE);
        CHECK.due("hangs, opened by a stranger", x.hangs(1, 1), 3);
        CHECK.due("lock(1, 1)", x.lock(1, 1), 9);
        CHECK.due("lock(1, 0)", x.lock(1, 0), 2);
        CHECK.due("hangs again", x.hangs(1, 1), STATE);
        ring(x, "behind 2", 2, 0, 1);
    }

    private static void toldOn() {
        CHECK.sentence("TOLD: a PERSON tells another one a LOCK that he KNOWS; that one KNOWS it then.");
        GateChain x = Check.told("n6;l1;l2;l3;k0 1;k0 0;");
        for (int p = 0; p < 5; p++) {
            CHECK.due("tells(" + p + ", " + (p + 1) + ", 1)", x.tells(p, p + 1, 1), p + 2);
            CHECK.due("person(" + (p + 1) + ", 0)", x.person(p + 1, 0), 2);
        }
        CHECK.due("tells back", x.tells(5, 0, 1), STATE);
        CHECK.due("lock(1, 2)", x.lock(1, 2), 63);
        x.opens(0, 0);
        CHECK.due("tells, the gate open", x.tells(0, 5, 0), 2);
        GateChain y = Check.told("l1;l2;l3;k0 0;k0 1;");
        y.opens(0, 0);
        y.shuts(2, 0);
        CHECK.due("tells of one beside", y.tells(0, 2, 1), 2);
        CHECK.due("person(2, 2), told of one beside", y.person(2, 2), 0);
    }

    private static void changedIsKnownByOneAlone() {
        CHECK.sentence("he alone KNOWS it then (its WHEELS SHOW that)");
        for (int p = 0; p < 6; p++) {
            GateChain x = Check.told("n6;l1;l2;k0 0;k1 0;k2 0;k3 0;k4 0;k5 0;k0 1;k5 1;");
            x.opens(0, 0);
            CHECK.due("changes(" + p + ", 999)", x.changes(p, 999), 5);
            CHECK.due("lock(0, 0)", x.lock(0, 0), 999);
            CHECK.due("lock(0, 1)", x.lock(0, 1), 999);
            CHECK.due("lock(0, 2)", x.lock(0, 2), 1 << p);
            CHECK.due("lock(1, 2) of another", x.lock(1, 2), 33);
            CHECK.due("lock(1, 0) of another", x.lock(1, 0), 2);
            CHECK.due("now(0)", x.now(0), 0);
        }
    }

    private static void triedByWheels() {
        CHECK.sentence("TRIED: a number at a LOCK of THE RING, the gate being SHUT: its WHEELS SHOW that; "
                + "how many of them are as in its CODE");
        GateChain x = Check.told("l909;l111;");
        int[][] tried = {{0, 1}, {999, 2}, {900, 2}, {9, 2}, {90, 0}, {99, 1}, {990, 1}, {111, 0}, {9, 2}, {908, 2}};
        for (int[] t : tried) {
            CHECK.due("tries(0, " + t[0] + ")", x.tries(0, t[0]), t[1]);
            CHECK.due("lock(0, 1)", x.lock(0, 1), t[0]);
            CHECK.due("lock(0, 0)", x.lock(0, 0), 909);
            CHECK.due("lock(1, 1) of another", x.lock(1, 1), 0);
            CHECK.due("now(0)", x.now(0), NONE);
        }
    }

    private static void triedRightOpens() {
        CHECK.sentence("if all three are, the gate is OPEN AT it.");
        GateChain x = Check.told("l0;l999;l500;");
        CHECK.due("tries(0, 0), as it shows already", x.tries(0, 0), 3);
        CHECK.due("now(0)", x.now(0), 0);
        CHECK.due("tries when open", x.tries(1, 999), STATE);
        CHECK.due("nobody knows it", x.lock(0, 2), 0);
        CHECK.due("shuts by a stranger", x.shuts(1, 1), 0);
        CHECK.due("tries(1, 999)", x.tries(1, 999), 3);
        CHECK.due("now(0) then", x.now(0), 1);
    }

    // ---- undone

    private static void tenMayBeUndone() {
        CHECK.sentence("(10 are known, older ones are lost)");
        for (int deeds = 0; deeds <= 23; deeds++) {
            GateChain x = Check.told("l999;");
            for (int i = 1; i <= deeds; i++) {
                x.tries(0, i);
                CHECK.due("count(3) behind " + i, x.count(3), Math.min(i, 10));
            }
            int known = Math.min(deeds, 10);
            for (int i = 1; i <= known; i++) {
                CHECK.due("undo() " + i + " of " + deeds, x.undo(), known - i);
                CHECK.due("lock(0, 1) behind it", x.lock(0, 1), deeds - i);
            }
            CHECK.due("undo() beyond " + deeds, x.undo(), STATE);
            CHECK.due("lock(0, 1) behind that", x.lock(0, 1), deeds - known);
        }
    }

    private static void undoneDeedByDeed() {
        CHECK.sentence("UNDONE: the latest OPENED, SHUT ON, HUNG IN, TOLD, CHANGED, TRIED");
        CHECK.sentence("all is as ahead of it.");
        GateChain x = Check.told(FOUR);
        GateChain undone = Check.told(FOUR);
        String[] ahead = new String[10];
        for (int deed = 0; deed < 10; deed++) {
            ahead[deed] = stand(x);
            CHECK.due("deed " + deed + " is done", deed(x, deed) >= 0 ? 1 : 0, 1);
            deed(undone, deed);
            undone.undo();
            CHECK.same("undo() of deed " + deed + " at once", stand(undone), ahead[deed]);
            deed(undone, deed);
        }
        for (int deed = 9; deed >= 0; deed--) {
            CHECK.due("undo() of deed " + deed, x.undo(), deed);
            CHECK.same("undo() of deed " + deed, stand(x), ahead[deed]);
        }
    }

    private static int deed(GateChain x, int deed) {
        switch (deed) {
            case 0: return x.tells(0, 2, 1);
            case 1: return x.opens(0, 0);
            case 2: return x.changes(0, 321);
            case 3: return x.shuts(3, 500);
            case 4: return x.tries(3, 9);
            case 5: return x.tries(3, 7);
            case 6: return x.hangs(2, 1);
            case 7: return x.hangs(1, 2);
            case 8: return x.shuts(0, 0);
            default: return x.tells(0, 1, 0);
        }
    }

    private static String stand(GateChain x) {
        StringBuilder s = new StringBuilder().append(x.now(0)).append(' ').append(x.now(1));
        for (int l = 0; l < 4; l++) {
            for (int what : new int[] {0, 1, 2, 4}) {
                s.append(' ').append(x.lock(l, what));
            }
        }
        return s.append(" undo ").append(x.count(3)).toString();
    }

    /** What is known goes round: deeds behind undone ones take their places, the oldest is lost again. */
    private static void doneAgainBehindUndone() {
        CHECK.sentence("older ones are lost");
        GateChain x = Check.told("l999;");
        for (int i = 1; i <= 15; i++) {
            x.tries(0, i);
        }
        for (int i = 0; i < 7; i++) {
            x.undo();
        }
        CHECK.due("count(3) of what is left", x.count(3), 3);
        for (int i = 101; i <= 108; i++) {
            x.tries(0, i);
        }
        int[] shown = {107, 106, 105, 104, 103, 102, 101, 8, 7, 6};
        for (int i = 0; i < 10; i++) {
            CHECK.due("undo() " + i, x.undo(), 9 - i);
            CHECK.due("lock(0, 1) behind it", x.lock(0, 1), shown[i]);
        }
        CHECK.due("undo() of a lost one", x.undo(), STATE);
    }

    private static void onlyDeedsAreUndone() {
        CHECK.sentence("UNDONE: how many more may be. STATE: none.");
        GateChain x = Check.told(FOUR);
        x.hears(1, 1);
        x.type('x');
        x.mark(0, 0);
        x.keep(0);
        x.opens(5, 5);
        x.shuts(0, 0);
        x.changes(0, 0);
        CHECK.due("undo() where nothing was done", x.undo(), STATE);
        x.opens(0, 0);
        x.hears(2, 1);
        x.type('x');
        x.mark(0, 0);
        x.keep(1);
        CHECK.due("undo()", x.undo(), 0);
        CHECK.due("heard is not undone", x.count(2), 2);
        CHECK.due("the text is not undone", x.count(4), 2);
        CHECK.due("the trace is not undone", x.trace(), 2);
        CHECK.due("an image is not undone", x.back(1), 4);
        CHECK.due("now(0) of the image", x.now(0), 0);
    }

    // ---- promises 7 to 14

    private static void opensAnswersTheRing() {
        CHECK.sentence("OPENED: how many LOCKS are of THE RING.");
        for (int n = 1; n <= 8; n++) {
            CHECK.due("opens(0, 0) of " + n, locks(n, "k0 0;").opens(0, 0), n);
        }
        GateChain x = locks(8, "k0 0;");
        x.opens(0, 0);
        x.shuts(7, 0);
        CHECK.due("opens(0, 0) of two left", x.opens(0, 0), 2);
    }

    private static void shutsAnswersThoseBeside() {
        CHECK.sentence("SHUT ON a LOCK, WHEELS SHOWING a number (0 .. 999): how many come BESIDE by it.");
        GateChain x = locks(8, "k0 0;");
        x.opens(0, 0);
        CHECK.due("shuts(6, -1)", x.shuts(6, -1), BAD);
        CHECK.due("shuts(6, 1000)", x.shuts(6, 1000), BAD);
        CHECK.due("shuts(6, 0)", x.shuts(6, 0), 5);
        x.opens(0, 0);
        CHECK.due("shuts(7, 999), some beside already", x.shuts(7, 999), 1);
    }

    private static void hangsAnswersTheRing() {
        CHECK.sentence("HUNG IN: how many LOCKS are of THE RING.");
        GateChain x = locks(8, "k0 0;k0 1;k0 2;k0 3;k0 4;k0 5;k0 6;");
        x.opens(0, 0);
        x.shuts(7, 0);
        x.opens(0, 0);
        for (int l = 1; l < 7; l++) {
            CHECK.due("hangs(0, " + l + ")", x.hangs(0, l), l + 2);
        }
    }

    private static void tellsAnswersWhoKnow() {
        CHECK.sentence("TOLD: how many KNOW it then. BAD (alike PERSONS, too); STATE: p does not KNOW it, q does.");
        GateChain x = Check.told("n6;l1;k5 0;");
        for (int p = 0; p < 6; p++) {
            CHECK.due("tells(" + p + ", " + p + ", 0)", x.tells(p, p, 0), BAD);
        }
        CHECK.due("tells(0, 5, 0): he does not know it", x.tells(0, 5, 0), STATE);
        CHECK.due("tells(0, 1, 0): neither does", x.tells(0, 1, 0), STATE);
        CHECK.due("tells(5, 0, 0)", x.tells(5, 0, 0), 2);
        CHECK.due("tells(5, 0, 0): he does", x.tells(5, 0, 0), STATE);
        for (int q = 1; q < 5; q++) {
            CHECK.due("tells(0, " + q + ", 0)", x.tells(0, q, 0), q + 2);
        }
    }

    private static void changesAnswersTheOthers() {
        CHECK.sentence("CHANGED: how many others KNEW it.");
        GateChain x = Check.told("l1;l2;k0 0;k1 0;k2 0;");
        x.opens(0, 0);
        CHECK.due("changes(1, 0)", x.changes(1, 0), 2);
        CHECK.due("changes(1, 999), he alone", x.changes(1, 999), 0);
        CHECK.due("changes(1, 999), the same code", x.changes(1, 999), 0);
        CHECK.due("count(3)", x.count(3), 4);
        CHECK.due("changes(0, 5), who knew it", x.changes(0, 5), STATE);
        x.shuts(1, 0);
        CHECK.due("opens by one who knew it", x.opens(0, 0), STATE);
        CHECK.due("tries the older code", x.tries(0, 1), 0);
        CHECK.due("opens by the one who changed it", x.opens(1, 0), 2);
        CHECK.due("lock(0, 1)", x.lock(0, 1), 999);
    }

    private static void triesAnswersWheels() {
        CHECK.sentence("TRIED: how many WHEELS are right.");
        GateChain x = Check.told("l555;");
        int[] tried = {0, 5, 50, 500, 550, 505, 55, 999};
        int[] right = {0, 1, 1, 1, 2, 2, 2, 0};
        for (int i = 0; i < tried.length; i++) {
            CHECK.due("tries(0, " + tried[i] + ")", x.tries(0, tried[i]), right[i]);
        }
        CHECK.due("tries(0, 555)", x.tries(0, 555), 3);
    }

    private static void undoAnswersHowManyMore() {
        CHECK.sentence("UNDONE: how many more may be. STATE: none.");
        GateChain x = Check.told("l1;");
        CHECK.due("undo() of none", x.undo(), STATE);
        x.tries(0, 5);
        x.tries(0, 5);
        CHECK.due("undo()", x.undo(), 1);
        CHECK.due("undo() again", x.undo(), 0);
        CHECK.due("undo() of none left", x.undo(), STATE);
        CHECK.due("undo() of none left, again", x.undo(), STATE);
    }

    private static void nowOfEach() {
        CHECK.sentence("0 the LOCK that the gate is OPEN AT (NONE: SHUT), 1 THE RING (bits), 2 who GETS IN (bits), "
                + "3 WORST (NONE), 4 the greatest of ROUNDS (NONE: one never does). BAD.");
        GateChain x = Check.told("n6;" + EIGHT + "k5 7;k0 0;f0 1;f1 2;f2 3;f3 4;");
        int[] shut = {NONE, 255, 33, NONE, 4};
        for (int what = 0; what < 5; what++) {
            CHECK.due("now(" + what + ") shut", x.now(what), shut[what]);
        }
        x.opens(5, 7);
        int[] open = {7, 255, 33, 1, 4};
        for (int what = 0; what < 5; what++) {
            CHECK.due("now(" + what + ") open", x.now(what), open[what]);
        }
        CHECK.due("now(5)", x.now(5), BAD);
        for (int far : Check.FAR) {
            CHECK.due("now(" + far + ")", x.now(far), BAD);
        }
        CHECK.due("now(4) where one never does", Check.told("n2;l1;k0 0;").now(4), NONE);
        CHECK.due("now(4) of one alone", Check.told("n1;l1;k0 0;").now(4), 0);
        CHECK.due("now(4) where nobody does", Check.told("n1;l1;").now(4), NONE);
    }
}
