/** The document's edges, a test for each sentence: kinds, images, and promises 23 to 27. */
public final class KindEdgesTest {
    private static final Check CHECK = new Check();
    private static final int BAD = GateChain.BAD, STATE = GateChain.STATE, NONE = GateChain.NONE, NO = GateChain.NO;
    private static final String EIGHT = "l1;l2;l3;l4;l5;l6;l7;l8;";
    private static final String FOUR = "n3;l123;l45;l900;l7;k0 0;k0 1;k1 2;k2 3;f0 1;";
    private static final long[] TRACES = {1, 11, 101, 1011, 10101, 100001};

    public static void main(String[] args) {
        kindsOverOneAnother();
        lockIsHowManyKnowIt();
        brassIsItsSteps();
        rustyIsBelowNought();
        doubleIsTwice();
        seizedIsItsNumber();
        paintedIsWhatItShows();
        tracedAsOftenAsAsked();
        imagesKeepNow();
        imagesKeepWhatMayBeUndone();
        imagesKeepNothingElse();
        imagesAreTwo();
        imagesAreGone();
        mark();
        keep();
        back();
        count();
        trace();
        fiveHundredAndTwelveCalls();
        constants();
        CHECK.end();
    }

    /** All marks of a lock, by kinds, and what each brings to the trace. */
    private static void marks(GateChain x, int l, int... marks) {
        for (int kind = 0; kind < marks.length; kind++) {
            long before = x.trace();
            CHECK.due("mark(" + kind + ", " + l + ")", x.mark(kind, l), marks[kind]);
            CHECK.due("trace() behind mark(" + kind + ", " + l + ")", x.trace() - before, TRACES[kind]);
        }
    }

    private static void kindsOverOneAnother() {
        CHECK.sentence("0 LOCK; 1 BRASS, 2 RUSTY, 5 PAINTED (each under LOCK); 3 DOUBLE (under BRASS); 4 SEIZED (under RUSTY).");
        GateChain x = Check.told("n4;l505;l23;l700;k0 0;k1 0;k2 0;k3 2;");
        x.tries(2, 690);
        marks(x, 0, 3, 3 + 10, 3 - 3, (3 + 10) * 2, 3 - 3 + 0, 3 + 0);
        marks(x, 1, 0, 0 + 5, 0 - 3, (0 + 5) * 2, 0 - 3 + 1, 0 + 0);
        marks(x, 2, 1, 1 + 2, 1 - 3, (1 + 2) * 2, 1 - 3 + 2, 1 + 690);
    }

    private static void lockIsHowManyKnowIt() {
        CHECK.sentence("LOCK how many KNOW it (1).");
        String known = "";
        for (int many = 0; many <= 6; many++) {
            CHECK.due("mark(0, 0) of " + many, Check.told("n6;l1;" + known).mark(0, 0), many);
            known = known.concat("k" + many % 6 + " 0;");
        }
        GateChain x = Check.told("l1;l2;l3;k0 0;k0 1;k1 1;");
        x.opens(0, 0);
        x.shuts(2, 0);
        CHECK.due("mark(0, 1) beside", x.mark(0, 1), 2);
    }

    private static void brassIsItsSteps() {
        CHECK.sentence("BRASS up, and its STEPS (10).");
        GateChain x = Check.told("n6;l555;k0 0;k1 0;k2 0;k3 0;k4 0;k5 0;");
        CHECK.due("mark(1, 0), the greatest", x.mark(1, 0), 6 + 15);
        x.tries(0, 555);
        CHECK.due("mark(1, 0), its code shown", x.mark(1, 0), 6);
    }

    private static void rustyIsBelowNought() {
        CHECK.sentence("RUSTY up less how many LOCKS are of THE RING (100).");
        GateChain x = Check.told(EIGHT + "k0 0;");
        CHECK.due("mark(2, 7), the least", x.mark(2, 7), -8);
        CHECK.due("mark(2, 0)", x.mark(2, 0), -7);
        x.opens(0, 0);
        x.shuts(7, 0);
        CHECK.due("mark(2, 0) of a ring of two: -1 is no BAD", x.mark(2, 0), -1);
        CHECK.due("mark(2, 3) beside: -2 is no STATE", x.mark(2, 3), -2);
        CHECK.due("mark(2, 0), all six and alone",
                Check.told("n6;l1;k0 0;k1 0;k2 0;k3 0;k4 0;k5 0;").mark(2, 0), 5);
    }

    private static void doubleIsTwice() {
        CHECK.sentence("DOUBLE up times 2 (1000).");
        GateChain x = Check.told("n6;l555;l0;k0 0;k1 0;k2 0;k3 0;k4 0;k5 0;");
        CHECK.due("mark(3, 0), the greatest", x.mark(3, 0), 42);
        CHECK.due("trace(): each body is asked once", x.trace(), 1011);
        CHECK.due("mark(3, 1) of nought", x.mark(3, 1), 0);
    }

    private static void seizedIsItsNumber() {
        CHECK.sentence("SEIZED up, and its number (10000).");
        GateChain x = Check.told(EIGHT);
        for (int l = 0; l < 8; l++) {
            CHECK.due("mark(4, " + l + ")", x.mark(4, l), l - 8);
        }
        CHECK.due("trace()", x.trace(), 8 * 10101);
    }

    private static void paintedIsWhatItShows() {
        CHECK.sentence("PAINTED up, and what it SHOWS (100000).");
        GateChain x = Check.told("n2;l999;k0 0;k1 0;");
        CHECK.due("mark(5, 0) of 000", x.mark(5, 0), 2);
        x.tries(0, 998);
        CHECK.due("mark(5, 0) of 998", x.mark(5, 0), 1000);
        x.opens(0, 0);
        CHECK.due("mark(5, 0) of 999", x.mark(5, 0), 1001);
        CHECK.due("trace()", x.trace(), 3 * 100001);
    }

    private static void tracedAsOftenAsAsked() {
        CHECK.sentence("(numbers in brackets come to THE TRACE as often as mark() asks that body;");
        GateChain x = Check.told("l1;");
        CHECK.due("trace() at first", x.trace(), 0);
        long all = 0;
        for (int round = 0; round < 12; round++) {
            for (int kind = 0; kind < 6; kind++) {
                x.mark(kind, 0);
                all += TRACES[kind];
                CHECK.due("trace()", x.trace(), all);
            }
        }
        x.mark(6, 0);
        x.mark(-1, 0);
        x.mark(5, 1);
        CHECK.due("trace() behind refused marks", x.trace(), all);
        CHECK.due("trace() again", x.trace(), all);
    }

    // ---- images

    private static void imagesKeepNow() {
        CHECK.sentence("IMAGES 0, 1 keep NOW (THE RING, OPEN AT, CODES, what is SHOWN, who KNOWS what, what may be UNDONE)");
        GateChain x = Check.told(FOUR);
        x.tells(0, 1, 0);
        x.opens(0, 0);
        x.shuts(2, 5);
        x.opens(1, 0);
        x.changes(1, 777);
        String kept = Check.look(x);
        CHECK.due("keep(0)", x.keep(0), 3);
        CHECK.same("keep(0) changes nothing seen", Check.look(x), kept);
        x.hangs(0, 1);
        x.shuts(3, 888);
        x.tries(3, 9);
        x.tells(2, 0, 3);
        CHECK.due("back(0)", x.back(0), 3);
        CHECK.same("back(0)", Check.look(x), kept);
    }

    private static void imagesKeepWhatMayBeUndone() {
        CHECK.sentence("what may be UNDONE); nothing else.");
        GateChain x = Check.told("l999;");
        for (int i = 1; i <= 12; i++) {
            x.tries(0, i);
        }
        x.keep(0);
        for (int i = 13; i <= 20; i++) {
            x.tries(0, i);
        }
        x.keep(1);
        for (int image : new int[] {0, 1, 0}) {
            int last = image == 0 ? 12 : 20;
            CHECK.due("back(" + image + ")", x.back(image), 1);
            CHECK.due("count(3) of image " + image, x.count(3), 10);
            for (int i = 1; i <= 10; i++) {
                CHECK.due("undo() of image " + image, x.undo(), 10 - i);
                CHECK.due("lock(0, 1) behind it", x.lock(0, 1), last - i);
            }
            CHECK.due("undo() beyond image " + image, x.undo(), STATE);
        }
        x.keep(0);
        x.tries(0, 5);
        x.back(0);
        CHECK.due("undo() of an image without any", x.undo(), STATE);
    }

    private static void imagesKeepNothingElse() {
        CHECK.sentence("nothing else. (Read anew");
        GateChain x = Check.told(FOUR);
        x.keep(0);
        x.hears(0, 1);
        x.type('l');
        x.mark(0, 0);
        x.keep(1);
        CHECK.due("back(0)", x.back(0), 4);
        CHECK.due("what was heard stays", x.count(2), 1);
        CHECK.due("codes stay", x.codes(0), 243);
        CHECK.due("the text stays", x.count(4), 1);
        CHECK.due("the trace stays", x.trace(), 1);
        CHECK.due("the other image stays", x.back(1), 4);
        x.forget();
        x.clear();
        x.back(1);
        CHECK.due("what was heard does not come back", x.count(2), 0);
        CHECK.due("the text does not come back", x.count(4), 0);
    }

    private static void imagesAreTwo() {
        CHECK.sentence("An IMAGE is kept: how many LOCKS are of THE RING. BAD.");
        GateChain x = Check.told(EIGHT + "k0 0;");
        x.opens(0, 0);
        CHECK.due("keep(0)", x.keep(0), 8);
        x.shuts(7, 0);
        CHECK.due("keep(1)", x.keep(1), 2);
        CHECK.due("back(0)", x.back(0), 8);
        CHECK.due("now(0) of image 0", x.now(0), 0);
        CHECK.due("back(1)", x.back(1), 2);
        CHECK.due("now(0) of image 1", x.now(0), NONE);
        CHECK.due("keep(0) over the one there", x.keep(0), 2);
        x.undo();
        CHECK.due("back(0) of the newer one", x.back(0), 2);
        x.undo();
        CHECK.due("back(1) is a copy", x.back(1), 2);
        CHECK.due("keep(2)", x.keep(2), BAD);
        CHECK.due("keep(-1)", x.keep(-1), BAD);
    }

    private static void imagesAreGone() {
        CHECK.sentence("IMAGES are gone.)");
        GateChain x = Check.told(FOUR);
        x.keep(0);
        x.keep(1);
        Check.put(x, "l1;x");
        x.gate();
        CHECK.due("back(0) behind a fault", x.back(0), 4);
        CHECK.due("back(1) behind a fault", x.back(1), 4);
        x.clear();
        CHECK.due("gate()", x.gate(), 0);
        CHECK.due("back(0) behind gate()", x.back(0), STATE);
        CHECK.due("back(1) behind gate()", x.back(1), STATE);
        CHECK.due("keep(1)", x.keep(1), 0);
        CHECK.due("back(1) kept again", x.back(1), 0);
        CHECK.due("back(0) not kept", x.back(0), STATE);
    }

    // ---- promises 23 to 27

    private static void mark() {
        CHECK.sentence("MARK. NO: BAD.");
        GateChain x = Check.told("l1;l2;");
        CHECK.due("mark(5, 1)", x.mark(5, 1), 0);
        CHECK.due("mark(6, 1)", x.mark(6, 1), NO);
        CHECK.due("mark(0, 2)", x.mark(0, 2), NO);
        for (int far : Check.FAR) {
            CHECK.due("mark(" + far + ", 0)", x.mark(far, 0), NO);
            CHECK.due("mark(0, " + far + ")", x.mark(0, far), NO);
        }
        for (int kind = 0; kind < 6; kind++) {
            CHECK.due("mark(" + kind + ", 0) without locks", new GateChain().mark(kind, 0), NO);
        }
    }

    private static void keep() {
        CHECK.sentence("An IMAGE is kept: how many LOCKS are of THE RING. BAD.");
        GateChain x = new GateChain();
        CHECK.due("keep(0) without locks", x.keep(0), 0);
        CHECK.due("back(0) without locks", x.back(0), 0);
        CHECK.due("keep(2)", x.keep(2), BAD);
        for (int far : Check.FAR) {
            CHECK.due("keep(" + far + ")", x.keep(far), BAD);
        }
        CHECK.due("count(3) behind keep(0)", x.count(3), 0);
    }

    private static void back() {
        CHECK.sentence("All of that becomes as an IMAGE has it: how many LOCKS are of THE RING. BAD; STATE: none was kept.");
        GateChain x = Check.told("l1;l2;l3;k0 0;");
        CHECK.due("back(0) of none", x.back(0), STATE);
        CHECK.due("back(1) of none", x.back(1), STATE);
        CHECK.due("back(2) of none", x.back(2), BAD);
        x.keep(1);
        CHECK.due("back(0), the other kept", x.back(0), STATE);
        x.opens(0, 0);
        x.shuts(2, 0);
        CHECK.due("back(1)", x.back(1), 3);
        CHECK.due("back(1) is nothing to be undone", x.undo(), STATE);
        CHECK.due("back(1) again", x.back(1), 3);
        for (int far : Check.FAR) {
            CHECK.due("back(" + far + ")", x.back(far), BAD);
        }
    }

    private static void count() {
        CHECK.sentence("0 PERSONS, 1 LOCKS, 2 HEARD, 3 how many may be UNDONE, 4 bytes of THE TEXT. BAD.");
        GateChain x = Check.told("n6;" + EIGHT);
        for (int i = 0; i < 150; i++) {
            x.type(' ');
        }
        for (int i = 0; i < 12; i++) {
            x.tries(0, 500);
            x.hears(i, 0);
            x.type(' ');
        }
        int[] most = {6, 8, 4, 10, 150};
        for (int what = 0; what < 5; what++) {
            CHECK.due("count(" + what + "), the most", x.count(what), most[what]);
        }
        CHECK.due("count(5)", x.count(5), BAD);
        for (int far : Check.FAR) {
            CHECK.due("count(" + far + ")", x.count(far), BAD);
        }
        GateChain least = Check.told("n1;");
        int[] none = {1, 0, 0, 0, 0};
        for (int what = 0; what < 5; what++) {
            CHECK.due("count(" + what + "), the least", least.count(what), none[what]);
        }
    }

    private static void trace() {
        CHECK.sentence("`long trace()`: THE TRACE.");
        GateChain x = Check.told(FOUR);
        x.mark(5, 0);
        x.opens(0, 0);
        x.keep(0);
        x.mark(4, 0);
        x.undo();
        x.back(0);
        CHECK.due("trace() behind undo() and back()", x.trace(), 100001 + 10101);
        x.gate();
        CHECK.due("trace() behind gate()", x.trace(), 100001 + 10101);
    }

    private static void fiveHundredAndTwelveCalls() {
        CHECK.sentence("An object is used for at most 512 calls after it has been made");
        GateChain x = Check.told("l999;");
        for (int calls = 6; calls < 511; calls++) {
            x.mark(5, 0);
        }
        CHECK.due("the 512th call", x.trace(), 505L * 100001);
        GateChain y = Check.told("l999;");
        for (int calls = 6; calls < 511; calls++) {
            y.tries(0, calls);
        }
        CHECK.due("undo() as the 512th call", y.undo(), 9);
    }

    private static void constants() {
        CHECK.sentence("The constants: `NO = -1000000`: What none is, where a number may be below 0.");
        CHECK.due("BAD", BAD, -1);
        CHECK.due("STATE", STATE, -2);
        CHECK.due("FULL", GateChain.FULL, -3);
        CHECK.due("NONE", NONE, -9);
        CHECK.due("NO", NO, -1000000);
    }
}
