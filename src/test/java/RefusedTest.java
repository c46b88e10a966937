import java.util.function.Consumer;
import java.util.function.ToLongFunction;

/**
 * "Refused, and nothing changes, the first of these: BAD, STATE, FULL": each call that may be refused, for each cause,
 * and for two at once. Whether nothing changes is seen by two objects made alike (Check.refused).
 */
public final class RefusedTest {
    private static final Check CHECK = new Check();
    private static final int BAD = GateChain.BAD, STATE = GateChain.STATE, FULL = GateChain.FULL, NO = GateChain.NO;
    // Person 0 knows locks 0 and 1, person 1 lock 2, person 2 lock 3; there is no person 3 and no lock 4.
    private static final String FOUR = "n3;l123;l45;l900;l7;k0 0;k0 1;k1 2;k2 3;f0 1;";
    private static final int[] NO_LOCK = {-1, 4, 7, 8, 32, Integer.MAX_VALUE, Integer.MIN_VALUE};
    private static final int[] NO_PERSON = {-1, 3, 5, 6, 32, Integer.MAX_VALUE, Integer.MIN_VALUE};
    private static final int[] NO_NUMBER = {-1, 1000, Integer.MAX_VALUE, Integer.MIN_VALUE};

    public static void main(String[] args) {
        CHECK.sentence("Refused, and nothing changes, the first of these: BAD (a number is not as told, "
                + "or there is no such thing), STATE (as told), FULL.");
        badAheadOfAll();
        CHECK.sentence("BAD; STATE: the gate is OPEN, it is BESIDE, he does not KNOW it.");
        opens();
        CHECK.sentence("BAD; STATE: the gate is SHUT, it can't be.");
        shuts();
        CHECK.sentence("BAD; STATE: the gate is SHUT, it is of THE RING, he does not KNOW it.");
        hangs();
        CHECK.sentence("BAD (alike PERSONS, too); STATE: p does not KNOW it, q does.");
        tells();
        CHECK.sentence("BAD; STATE: the gate is SHUT, he does not KNOW it.");
        changes();
        CHECK.sentence("BAD; STATE: the gate is OPEN, it is BESIDE.");
        tries();
        CHECK.sentence("UNDONE: how many more may be. STATE: none.");
        undo();
        CHECK.sentence("comes to THE TEXT: how many it has. BAD; FULL.");
        type();
        CHECK.sentence("HEARD: how much there is. BAD; FULL.");
        hears();
        CHECK.sentence("BAD; STATE: none was kept.");
        images();
        CHECK.sentence("MARK. NO: BAD.");
        mark();
        CHECK.end();
    }

    // ---- how it stands ahead of the call

    /** Something of everything that an object holds, so that a change to any of it would be seen. */
    private static void fill(GateChain x) {
        x.hears(500, 1);
        x.mark(1, 2);
        Check.put(x, "n2;l5;");
        x.tells(0, 1, 1);
        x.tries(3, 8);
        x.keep(0);
    }

    private static void shut(GateChain x) {
        fill(x);
    }

    private static void open(GateChain x) {
        fill(x);
        x.opens(0, 0);
    }

    /** Lock 1 is beside; the gate is shut. */
    private static void shutWithOneBeside(GateChain x) {
        open(x);
        x.shuts(2, 77);
    }

    /** Lock 1 is beside; the gate is open at lock 2. */
    private static void openWithOneBeside(GateChain x) {
        shutWithOneBeside(x);
        x.opens(1, 2);
    }

    /** As many may be undone as are known: a refused call must not lose the oldest. */
    private static void shutBehindTenDeeds(GateChain x) {
        fill(x);
        for (int i = 0; i < 9; i++) {
            x.tries(2, i);
        }
    }

    private static void openBehindTenDeeds(GateChain x) {
        shutBehindTenDeeds(x);
        x.tries(3, 7);
    }

    private static void refused(Consumer<GateChain> ahead, String call, ToLongFunction<GateChain> asked, long want) {
        CHECK.refused(FOUR, ahead, call, asked, want);
    }

    private static void refusedShut(String call, ToLongFunction<GateChain> asked, long want) {
        refused(RefusedTest::shut, call + ", shut", asked, want);
        refused(RefusedTest::shutBehindTenDeeds, call + ", shut behind ten deeds", asked, want);
    }

    private static void refusedOpen(String call, ToLongFunction<GateChain> asked, long want) {
        refused(RefusedTest::open, call + ", open", asked, want);
        refused(RefusedTest::openBehindTenDeeds, call + ", open behind ten deeds", asked, want);
    }

    private static void bad(String call, ToLongFunction<GateChain> asked) {
        refusedShut(call, asked, BAD);
        refusedOpen(call, asked, BAD);
        refused(RefusedTest::openWithOneBeside, call + ", open, one beside", asked, BAD);
    }

    // ---- the calls

    /** In each of these states a call that is BAD would be refused by STATE too, or would be done. */
    private static void badAheadOfAll() {
        for (int l : NO_LOCK) {
            bad("opens(0, " + l + ")", x -> x.opens(0, l));
            bad("shuts(" + l + ", 5)", x -> x.shuts(l, 5));
            bad("hangs(0, " + l + ")", x -> x.hangs(0, l));
            bad("tells(0, 1, " + l + ")", x -> x.tells(0, 1, l));
            bad("tries(" + l + ", 5)", x -> x.tries(l, 5));
            bad("lock(" + l + ", 0)", x -> x.lock(l, 0));
            bad("left(" + l + ")", x -> x.left(l));
            bad("near(" + l + ", 0)", x -> x.near(l, 0));
        }
        for (int p : NO_PERSON) {
            bad("opens(" + p + ", 0)", x -> x.opens(p, 0));
            bad("hangs(" + p + ", 1)", x -> x.hangs(p, 1));
            bad("tells(" + p + ", 2, 0)", x -> x.tells(p, 2, 0));
            bad("tells(0, " + p + ", 0)", x -> x.tells(0, p, 0));
            bad("changes(" + p + ", 5)", x -> x.changes(p, 5));
            bad("person(" + p + ", 0)", x -> x.person(p, 0));
        }
        for (int n : NO_NUMBER) {
            bad("shuts(3, " + n + ")", x -> x.shuts(3, n));
            bad("changes(0, " + n + ")", x -> x.changes(0, n));
            bad("tries(0, " + n + ")", x -> x.tries(0, n));
            bad("hears(" + n + ", 0)", x -> x.hears(n, 0));
            bad("hears(0, " + n + ")", x -> x.hears(0, n));
            bad("type(" + n + ")", x -> x.type(n));
            bad("keep(" + n + ")", x -> x.keep(n));
            bad("back(" + n + ")", x -> x.back(n));
            bad("now(" + n + ")", x -> x.now(n));
            bad("jam(" + n + ")", x -> x.jam(n));
            bad("codes(" + n + ")", x -> x.codes(n));
            bad("count(" + n + ")", x -> x.count(n));
            bad("odds(" + n + ", 0)", x -> x.odds(n, 0));
            bad("odds(0, " + n + ")", x -> x.odds(0, n));
            bad("near(0, " + n + ")", x -> x.near(0, n));
        }
    }

    private static void opens() {
        refusedOpen("opens(0, 0), the gate is open there", x -> x.opens(0, 0), STATE);
        refusedOpen("opens(0, 1), the gate is open", x -> x.opens(0, 1), STATE);
        refusedOpen("opens(2, 0), open and not known", x -> x.opens(2, 0), STATE);
        refused(RefusedTest::shutWithOneBeside, "opens(0, 1), it is beside", x -> x.opens(0, 1), STATE);
        refused(RefusedTest::shutWithOneBeside, "opens(2, 1), beside and not known", x -> x.opens(2, 1), STATE);
        refusedShut("opens(1, 0), he does not know it", x -> x.opens(1, 0), STATE);
        refusedShut("opens(2, 2), he does not know it", x -> x.opens(2, 2), STATE);
    }

    private static void shuts() {
        for (int l = 0; l < 4; l++) {
            int on = l;
            refusedShut("shuts(" + l + ", 5), the gate is shut", x -> x.shuts(on, 5), STATE);
        }
        refused(RefusedTest::open, "shuts(0, 5) on itself", x -> x.shuts(0, 5), STATE);
        refused(RefusedTest::openBehindTenDeeds, "shuts(3, 5) on itself", x -> x.shuts(3, 5), STATE);
        refused(RefusedTest::openWithOneBeside, "shuts(1, 5) on one beside", x -> x.shuts(1, 5), STATE);
        refused(RefusedTest::openWithOneBeside, "shuts(2, 5) on itself", x -> x.shuts(2, 5), STATE);
        refused(RefusedTest::shutWithOneBeside, "shuts(1, 5), shut and beside", x -> x.shuts(1, 5), STATE);
    }

    private static void hangs() {
        refusedShut("hangs(0, 1), the gate is shut", x -> x.hangs(0, 1), STATE);
        refused(RefusedTest::shutWithOneBeside, "hangs(0, 1), the gate is shut, it is beside", x -> x.hangs(0, 1), STATE);
        refusedOpen("hangs(0, 1), it is of the ring", x -> x.hangs(0, 1), STATE);
        refusedOpen("hangs(0, 0), it is of the ring", x -> x.hangs(0, 0), STATE);
        refusedOpen("hangs(2, 1), of the ring and not known", x -> x.hangs(2, 1), STATE);
        refused(RefusedTest::openWithOneBeside, "hangs(2, 1), he does not know it", x -> x.hangs(2, 1), STATE);
    }

    private static void tells() {
        for (int p = 0; p < 3; p++) {
            int alike = p;
            bad("tells(" + p + ", " + p + ", 0)", x -> x.tells(alike, alike, 0));
        }
        refusedShut("tells(1, 2, 0), p does not know it", x -> x.tells(1, 2, 0), STATE);
        refusedOpen("tells(1, 2, 0), p does not know it", x -> x.tells(1, 2, 0), STATE);
        refusedShut("tells(2, 0, 1), p does not, q does", x -> x.tells(2, 0, 1), STATE);
        refusedShut("tells(0, 1, 1), q does", x -> x.tells(0, 1, 1), STATE);
        refusedOpen("tells(0, 1, 1), q does", x -> x.tells(0, 1, 1), STATE);
        refused(RefusedTest::openWithOneBeside, "tells(1, 0, 1), q does, beside", x -> x.tells(1, 0, 1), STATE);
    }

    private static void changes() {
        for (int p = 0; p < 3; p++) {
            int by = p;
            refusedShut("changes(" + p + ", 5), the gate is shut", x -> x.changes(by, 5), STATE);
        }
        refused(RefusedTest::open, "changes(1, 5), he does not know it", x -> x.changes(1, 5), STATE);
        refused(RefusedTest::openBehindTenDeeds, "changes(0, 5), he does not know it", x -> x.changes(0, 5), STATE);
        refused(RefusedTest::openWithOneBeside, "changes(2, 900), he does not know it", x -> x.changes(2, 900), STATE);
    }

    private static void tries() {
        refusedOpen("tries(0, 123), the gate is open", x -> x.tries(0, 123), STATE);
        refusedOpen("tries(2, 5), the gate is open", x -> x.tries(2, 5), STATE);
        refused(RefusedTest::shutWithOneBeside, "tries(1, 45), it is beside", x -> x.tries(1, 45), STATE);
        refused(RefusedTest::shutWithOneBeside, "tries(1, 5), it is beside", x -> x.tries(1, 5), STATE);
        refused(RefusedTest::openWithOneBeside, "tries(1, 45), open and beside", x -> x.tries(1, 45), STATE);
    }

    private static void undo() {
        refused(x -> { }, "undo() of nothing", GateChain::undo, STATE);
        refused(x -> {
            fill(x);
            x.undo();
            x.undo();
        }, "undo() of nothing left", GateChain::undo, STATE);
        refused(x -> {
            shutBehindTenDeeds(x);
            for (int i = 0; i < 10; i++) {
                x.undo();
            }
        }, "undo() of one that is lost", GateChain::undo, STATE);
    }

    private static void type() {
        Consumer<GateChain> full = x -> {
            open(x);
            Check.put(x, " ".repeat(144));
        };
        for (int c : new int[] {0, 32, 59, 255}) {
            refused(full, "type(" + c + ") when full", x -> x.type(c), FULL);
        }
        for (int c : new int[] {-1, 256, Integer.MAX_VALUE, Integer.MIN_VALUE}) {
            refused(full, "type(" + c + ") when full", x -> x.type(c), BAD);
        }
    }

    private static void hears() {
        Consumer<GateChain> full = x -> {
            open(x);
            x.hears(500, 1);
            x.hears(511, 1);
            x.hears(522, 1);
        };
        refused(full, "hears(500, 1) when full", x -> x.hears(500, 1), FULL);
        refused(full, "hears(0, 3) when full", x -> x.hears(0, 3), FULL);
        refused(full, "hears(1000, 3) when full", x -> x.hears(1000, 3), BAD);
        refused(full, "hears(0, 4) when full", x -> x.hears(0, 4), BAD);
        refused(full, "hears(-1, -1) when full", x -> x.hears(-1, -1), BAD);
    }

    private static void images() {
        refusedShut("back(1), none kept", x -> x.back(1), STATE);
        refusedOpen("back(1), none kept", x -> x.back(1), STATE);
        refusedOpen("back(2)", x -> x.back(2), BAD);
        refusedOpen("keep(2)", x -> x.keep(2), BAD);
        refused(x -> {
            fill(x);
            x.clear();
            Check.put(x, FOUR);
            x.gate();
        }, "back(0), gone", x -> x.back(0), STATE);
    }

    private static void mark() {
        for (int kind : new int[] {-1, 6, Integer.MAX_VALUE, Integer.MIN_VALUE}) {
            refusedOpen("mark(" + kind + ", 0)", x -> x.mark(kind, 0), NO);
        }
        for (int l : NO_LOCK) {
            for (int kind = -1; kind <= 6; kind++) {
                int as = kind;
                refusedShut("mark(" + kind + ", " + l + ")", x -> x.mark(as, l), NO);
            }
        }
    }
}
