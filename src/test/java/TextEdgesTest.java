/** The document's edges, a test for each sentence: the terms and promises 1 to 6. */
public final class TextEdgesTest {
    private static final Check CHECK = new Check();
    private static final int BAD = GateChain.BAD, FULL = GateChain.FULL, NONE = GateChain.NONE;
    private static final String EIGHT = "l1;l2;l3;l4;l5;l6;l7;l8;";

    public static void main(String[] args) {
        personsToldFromOneToSix();
        threePersonsAtFirst();
        eightLocksAtMost();
        codesFromNoughtTo999();
        wheelsWithNoughtsAhead();
        friendsOnBothSides();
        textOf150Bytes();
        blanksAre32Alone();
        bytesThatBeginATokenOrNone();
        itemsAreEndedBySemicolons();
        lettersAndNumbersAreUnlike();
        personsAreToldFirst();
        locksAreToldInTheirOrder();
        onlyLocksToldAheadAreKnown();
        friendsAreUnlike();
        faultIsTheFirstByteOfTheFirst();
        lettersThatBeginNoItem();
        personsBehindAnotherItem();
        ninthLock();
        numbersBeyondWhatTheyMayBe();
        numbersThatAreNone();
        textsThatEndTooEarly();
        aNewObject();
        typeTakesBytes();
        clearEmptiesTheText();
        gateCountsItems();
        gateAtAFault();
        gateReadsAnew();
        lockOfEachLock();
        lockBehindInTheRing();
        personOfEachPerson();
        CHECK.end();
    }

    private static GateChain typed(String text) {
        GateChain x = new GateChain();
        Check.put(x, text);
        return x;
    }

    private static void items(String text, int items) {
        GateChain x = typed(text);
        CHECK.due("gate() of \"" + text + "\"", x.gate(), items);
        CHECK.due("count(4) behind \"" + text + "\"", x.count(4), 0);
    }

    private static void fault(String text, int place) {
        GateChain x = typed(text);
        CHECK.due("gate() of \"" + text + "\"", x.gate(), -10 - place);
        CHECK.due("clear() behind \"" + text + "\"", x.clear(), text.length());
        CHECK.due("count(0) behind \"" + text + "\"", x.count(0), 3);
        CHECK.due("count(1) behind \"" + text + "\"", x.count(1), 0);
    }

    // ---- terms

    private static void personsToldFromOneToSix() {
        CHECK.sentence("PERSONS 0 .. as many as are told less 1 (1 ..");
        for (int n = 1; n <= 6; n++) {
            GateChain x = Check.told("n" + n + ";");
            CHECK.due("count(0) of n" + n, x.count(0), n);
            CHECK.due("the last person of n" + n, x.person(n - 1, 0), 0);
            CHECK.due("one beyond n" + n, x.person(n, 0), BAD);
            CHECK.due("one below n" + n, x.person(-1, 0), BAD);
        }
        fault("n0;", 1);
        fault("n7;", 1);
        fault("n999;", 1);
    }

    private static void threePersonsAtFirst() {
        CHECK.sentence("6; 3 at first)");
        GateChain x = new GateChain();
        CHECK.due("count(0) at first", x.count(0), 3);
        CHECK.due("person(2, 0) at first", x.person(2, 0), 0);
        CHECK.due("person(3, 0) at first", x.person(3, 0), BAD);
        items("f0 2;", 1);
        fault("f0 3;", 3);
        Check.put(x, "n6;");
        x.gate();
        Check.put(x, "l1;");
        x.gate();
        CHECK.due("count(0) of a text without n behind n6", x.count(0), 3);
    }

    private static void eightLocksAtMost() {
        CHECK.sentence("LOCKS 0 .. (8 at most)");
        for (int locks = 0; locks <= 8; locks++) {
            GateChain x = Check.told(EIGHT.substring(0, locks * 3));
            CHECK.due("count(1) of " + locks, x.count(1), locks);
            CHECK.due("the last of " + locks, x.lock(locks - 1, 0), locks == 0 ? BAD : locks);
            CHECK.due("one beyond " + locks, x.lock(locks, 0), BAD);
        }
    }

    private static void codesFromNoughtTo999() {
        CHECK.sentence("CODE (0 .. 999:");
        for (int code : new int[] {0, 1, 9, 10, 99, 100, 998, 999}) {
            GateChain x = Check.told("l" + code + ";");
            CHECK.due("lock(0, 0) of l" + code, x.lock(0, 0), code);
            CHECK.due("tries(0, " + code + ")", x.tries(0, code), 3);
        }
        fault("l1000;", 1);
    }

    private static void wheelsWithNoughtsAhead() {
        CHECK.sentence("three WHEELS, a figure each, 0s ahead)");
        GateChain x = Check.told("l7;");
        CHECK.due("lock(0, 5) of 007", x.lock(0, 5), 3);
        CHECK.due("tries(0, 700) of 007", x.tries(0, 700), 1);
        CHECK.due("tries(0, 70) of 007", x.tries(0, 70), 1);
        CHECK.due("tries(0, 0) of 007", x.tries(0, 0), 2);
        CHECK.due("tries(0, 777) of 007", x.tries(0, 777), 1);
        CHECK.due("tries(0, 7) of 007", x.tries(0, 7), 3);
    }

    private static void friendsOnBothSides() {
        CHECK.sentence("Some two PERSONS are FRIENDS.");
        GateChain x = Check.told("n6;f5 0;f0 5;f0 1;");
        int[] friends = {34, 1, 0, 0, 0, 1};
        for (int p = 0; p < 6; p++) {
            CHECK.due("person(" + p + ", 1)", x.person(p, 1), friends[p]);
        }
        GateChain y = Check.told("n4;f0 1;f2 1;f3 1;f3 2;f3 0;");
        int[] many = {10, 13, 10, 7};
        for (int p = 0; p < 4; p++) {
            CHECK.due("person(" + p + ", 1) of many friends", y.person(p, 1), many[p]);
        }
    }

    private static void textOf150Bytes() {
        CHECK.sentence("They are a text (150 bytes at most)");
        GateChain x = typed(" ".repeat(149));
        CHECK.due("the 150th byte", x.type(' '), 150);
        CHECK.due("a 151st byte", x.type(' '), FULL);
        CHECK.due("gate() of 150 blanks", x.gate(), 0);
        items("l5" + " ".repeat(147) + ";", 1);
        fault(" ".repeat(149) + ";", 149);
        fault(" ".repeat(149) + "l", 150);
        fault("l5" + " ".repeat(148), 150);
        fault("l" + "9".repeat(149), 1);
        GateChain y = typed("l5;" + " ".repeat(147));
        y.type('x');
        CHECK.due("gate() without the byte that was too many", y.gate(), 1);
    }

    private static void blanksAre32Alone() {
        CHECK.sentence("blanks (32) between TOKENS");
        items("   n   2 ;l 5   ; k 0   0 ;   f 0 1 ;  ", 4);
        items("n2;l5;k0 0;f0 1;", 4);
        fault("l5;k00;", 4);
        for (int c = 0; c < 256; c++) {
            String text = "l" + (char) c + "1;";
            if (c == ' ') {
                items(text, 1);
            } else if (c >= '1' && c <= '9') {
                CHECK.due("the code of " + text, Check.told(text).lock(0, 0), (c - '0') * 10 + 1);
            } else if (c >= 'a' && c <= 'z') {
                fault(text, 0);
            } else {
                fault(text, 1);
            }
        }
    }

    private static void bytesThatBeginATokenOrNone() {
        CHECK.sentence("TOKENS are letters a .. z side by side, NUMBERS and ;");
        for (int c = 0; c < 256; c++) {
            boolean begins = "nlkf".indexOf(c) >= 0;
            if (c == ' ') {
                items(" ", 0);
            } else {
                fault("" + (char) c, begins ? 1 : 0);
                fault(" " + (char) c, begins ? 2 : 1);
            }
            if (c != ' ' && c != ';' && !(c >= '0' && c <= '9')) {
                fault("l5" + (char) c, 2);
            }
        }
    }

    private static void itemsAreEndedBySemicolons() {
        CHECK.sentence("ITEMS, each letters and what is told, ended by ;");
        fault(";", 0);
        fault("l5;;", 3);
        fault("l5; ;", 4);
        fault("l;", 1);
        fault("n;", 1);
        fault("l5;k;", 4);
        fault("l5;k0;", 5);
        fault("f;", 1);
        fault("f0;", 2);
        fault("l5 l5;", 3);
        fault("l5 5;", 3);
        fault("n2 2;", 3);
        fault("l5;k0 0 0;", 8);
        fault("f0 1 2;", 5);
        fault("f0 1f0 2;", 4);
    }

    /** A letter's own number as a byte is no letter, and a letter no number. */
    private static void lettersAndNumbersAreUnlike() {
        CHECK.sentence("each letters and what is told");
        for (char c : new char[] {'n', 'l', 'k', 'f'}) {
            fault((int) c + " 1;", 0);
            fault("l5;" + (int) c + " 0 0;", 3);
        }
        fault("5;", 0);
        fault("l x;", 2);
        fault("n b;", 2);
        fault("l5;k a 0;", 5);
        fault("l5;k 0 a;", 7);
        fault("f a 0;", 2);
        fault("f 0 b;", 4);
    }

    private static void personsAreToldFirst() {
        CHECK.sentence("n N (PERSONS; the first of all, if it is told)");
        items("n1;", 1);
        items("   n 6;l1;", 2);
        items("l1;", 1);
        fault("n1;l1;k1 0;", 7);
        items("n6;l1;k5 0;", 3);
    }

    private static void locksAreToldInTheirOrder() {
        CHECK.sentence("l C (the next LOCK)");
        GateChain x = Check.told("l8;f0 1;l0;l8;k0 2;l999;");
        int[] codes = {8, 0, 8, 999};
        for (int l = 0; l < 4; l++) {
            CHECK.due("lock(" + l + ", 0)", x.lock(l, 0), codes[l]);
            CHECK.due("lock(" + l + ", 2)", x.lock(l, 2), l == 2 ? 1 : 0);
        }
    }

    private static void onlyLocksToldAheadAreKnown() {
        CHECK.sentence("k P L (a PERSON KNOWS a LOCK told ahead)");
        fault("k0 0;", 3);
        fault("k0 0;l1;", 3);
        fault("l1;k0 1;l2;", 6);
        items("l1;l2;k0 1;", 3);
        items(EIGHT + "k2 7;", 9);
        fault(EIGHT + "k2 8;", 27);
        fault("l1;k3 0;", 4);
        CHECK.due("known, told twice", Check.told("l1;k1 0;k1 0;").lock(0, 2), 2);
    }

    private static void friendsAreUnlike() {
        CHECK.sentence("f A B (two unlike PERSONS are FRIENDS)");
        CHECK.sentence("B that is A");
        for (int p = 0; p < 6; p++) {
            fault("n6;f" + p + " " + p + ";", 6);
        }
        fault("n1;f0 0;", 6);
        fault("n1;f0 1;", 6);
        fault("n1;f1 0;", 4);
        fault("n6;f6 0;", 4);
        fault("n6;f0 6;", 6);
        items("n6;f0 5;f5 0;", 3);
    }

    private static void faultIsTheFirstByteOfTheFirst() {
        CHECK.sentence("FAULT: the place of the first byte of the first TOKEN that can't stand there");
        fault("   abc;", 3);
        fault("l5;   1234;", 6);
        fault("l   1234 x #", 4);
        fault("x#", 0);
        fault("x 1000", 0);
        fault("#x", 0);
        fault("l5 x; l1000;", 3);
        fault("n9;n9;", 1);
        fault("f0 0", 3);
        fault("l5;k9", 4);
    }

    private static void lettersThatBeginNoItem() {
        CHECK.sentence("(letters that begin no ITEM,");
        for (char c = 'a'; c <= 'z'; c++) {
            fault("l5;" + c + c, 3);
            if ("nlkf".indexOf(c) < 0) {
                fault("l5; " + c + " 1;", 4);
            }
        }
        fault("nl1;", 0);
        fault("lk 0 0;", 0);
        fault("l5;kf0 1;", 3);
        fault("z".repeat(150), 0);
    }

    private static void personsBehindAnotherItem() {
        CHECK.sentence("n behind another ITEM,");
        fault("n2;n2;", 3);
        fault("l1;n2;", 3);
        fault("f0 1; n2;", 6);
        fault("l1;k0 0;n", 8);
        fault("n2;n9;", 3);
    }

    private static void ninthLock() {
        CHECK.sentence("a ninth LOCK,");
        items(EIGHT, 8);
        fault(EIGHT + "l9;", 24);
        fault(EIGHT + "l", 24);
        fault(EIGHT + " l1000;", 25);
        fault("n2;" + EIGHT + "k0 7;l9;", 32);
    }

    private static void numbersBeyondWhatTheyMayBe() {
        CHECK.sentence("a NUMBER beyond what it may be, too)");
        fault("n0;", 1);
        fault("n 7;", 2);
        fault("n2;l1;k2 0;", 7);
        fault("n2;l1;k1 1;", 9);
        fault("n2;f2 0;", 4);
        fault("n2;f0 2;", 6);
        fault("n999;", 1);
        fault("l1;k999 0;", 4);
        fault("l1;k0 999;", 6);
    }

    private static void numbersThatAreNone() {
        CHECK.sentence("of a byte that begins none, a NUMBER above 999 or with a 0 ahead of others, that TOKEN's");
        String[] none = {"1000", "1001", "9999", "00", "01", "000", "0999", "01000", "2147483648", "4294967296",
            "4294967301", "18446744073709551616", "18446744073709551621", "1".repeat(100), "0".repeat(100)};
        for (String number : none) {
            fault("l" + number + ";", 1);
            fault("n" + number + ";", 1);
            fault("l1;k0 " + number + ";", 6);
            fault("f" + number + " 1;", 1);
            fault(number, 0);
            fault("l1;" + number, 3);
            fault("l1 " + number, 3);
            fault("l" + number, 1);
        }
        for (char c : new char[] {0, 9, 10, 13, 31, 33, '-', '+', '.', '/', ':', '<', '@', 'A', 'Z', '[', '`', '{',
            127, 128, 160, 255}) {
            fault("l" + c + "1;", 1);
            fault("l1" + c + ";", 2);
            fault("l1;" + c, 3);
        }
        items("l0;l999;", 2);
    }

    /** A text of all items, cut at each of its bytes: read if what is left ends an item, else it ends too early. */
    private static void textsThatEndTooEarly() {
        CHECK.sentence("the text's length, if it ends too early");
        String text = " n 6 ; l 999 ; k 5 0 ; f 4 5 ; l0;k0 1;f0 1;";
        int items = 0;
        boolean within = false;
        for (int cut = 0; cut <= text.length(); cut++) {
            if (cut > 0 && text.charAt(cut - 1) == ';') {
                items++;
                within = false;
            } else if (cut > 0 && text.charAt(cut - 1) != ' ') {
                within = true;
            }
            if (within) {
                fault(text.substring(0, cut), cut);
            } else {
                items(text.substring(0, cut), items);
            }
        }
    }

    // ---- promises 1 to 6

    private static void aNewObject() {
        CHECK.sentence("`GateChain()`: As told; no LOCKS.");
        GateChain x = new GateChain();
        int[] counts = {3, 0, 0, 0, 0};
        int[] nows = {NONE, 0, 0, NONE, NONE};
        for (int what = 0; what < 5; what++) {
            CHECK.due("count(" + what + ")", x.count(what), counts[what]);
            CHECK.due("now(" + what + ")", x.now(what), nows[what]);
        }
        int[] person = {0, 0, 0, NONE};
        for (int what = 0; what < 4; what++) {
            CHECK.due("person(2, " + what + ")", x.person(2, what), person[what]);
        }
        CHECK.due("lock(0, 0)", x.lock(0, 0), BAD);
        CHECK.due("left(0)", x.left(0), BAD);
        CHECK.due("near(0, 0)", x.near(0, 0), BAD);
        CHECK.due("mark(0, 0)", x.mark(0, 0), GateChain.NO);
        CHECK.due("jam(0)", x.jam(0), NONE);
        CHECK.due("odds(10, 1)", x.odds(10, 1), 1);
        CHECK.due("trace()", x.trace(), 0);
        CHECK.due("back(0)", x.back(0), GateChain.STATE);
        CHECK.due("back(1)", x.back(1), GateChain.STATE);
        CHECK.due("gate()", x.gate(), 0);
    }

    private static void typeTakesBytes() {
        CHECK.sentence("A byte (0 .. 255) comes to THE TEXT: how many it has. BAD; FULL.");
        GateChain x = new GateChain();
        CHECK.due("type(0)", x.type(0), 1);
        CHECK.due("type(255)", x.type(255), 2);
        for (int c : new int[] {-1, 256, 511, -128, -255, 65536 + 32, Integer.MAX_VALUE, Integer.MIN_VALUE}) {
            CHECK.due("type(" + c + ")", x.type(c), BAD);
        }
        CHECK.due("count(4)", x.count(4), 2);
        CHECK.due("clear()", x.clear(), 2);
        for (int c = 0; c < 150; c++) {
            CHECK.due("type(" + c + ")", x.type(c), c + 1);
        }
        CHECK.due("type(0) when full", x.type(0), FULL);
        CHECK.due("type(255) when full", x.type(255), FULL);
        CHECK.due("type(256) when full", x.type(256), BAD);
        CHECK.due("type(-1) when full", x.type(-1), BAD);
        CHECK.due("count(4) when full", x.count(4), 150);
    }

    private static void clearEmptiesTheText() {
        CHECK.sentence("THE TEXT is empty: how many bytes it had.");
        GateChain x = new GateChain();
        CHECK.due("clear() of nothing", x.clear(), 0);
        x.type(0);
        CHECK.due("clear() of one byte", x.clear(), 1);
        CHECK.due("clear() again", x.clear(), 0);
        Check.put(x, "x".repeat(151));
        CHECK.due("clear() of a full text", x.clear(), 150);
        CHECK.due("type behind it", x.type(' '), 1);
        CHECK.due("gate() of what came behind it", x.gate(), 0);
        GateChain y = Check.told("n2;l5;k1 0;");
        Check.put(y, "l9;");
        y.clear();
        CHECK.due("clear() changes nothing else", y.lock(0, 0), 5);
        CHECK.due("gate() of the cleared text", y.gate(), 0);
    }

    private static void gateCountsItems() {
        CHECK.sentence("THE TEXT tells all, and is empty then: how many ITEMS.");
        items("", 0);
        items(" ", 0);
        items("n3;" + EIGHT + "k0 0;".repeat(24), 33);
        GateChain x = Check.told("n6;" + EIGHT + "k5 7;f4 5;");
        CHECK.due("gate() of no byte", x.gate(), 0);
        CHECK.due("count(0) behind it", x.count(0), 3);
        CHECK.due("count(1) behind it", x.count(1), 0);
        CHECK.due("person(2, 1) behind it", x.person(2, 1), 0);
        Check.put(x, "n6;l1;");
        CHECK.due("gate() again", x.gate(), 2);
        CHECK.due("lock(0, 2) is told anew", x.lock(0, 2), 0);
        CHECK.due("person(5, 0) is told anew", x.person(5, 0), 0);
        CHECK.due("person(5, 1) is told anew", x.person(5, 1), 0);
        CHECK.due("lock(0, 4) is told anew", x.lock(0, 4), 0);
    }

    private static void gateAtAFault() {
        CHECK.sentence("-10 less FAULT: nothing changes.");
        String told = "n4;l12;l34;l56;k1 0;k2 1;k1 2;f1 2;";
        for (String text : new String[] {"x", "n", "n2;l7;k1 0;f0 1;x", "l1;l2;l3;l4;k0 0", " ".repeat(149) + "n"}) {
            CHECK.refused(told, x -> {
                x.opens(1, 0);
                x.keep(0);
                x.shuts(2, 7);
                x.keep(1);
                x.hears(123, 1);
                x.mark(3, 0);
                Check.put(x, text);
            }, "gate() of \"" + text + "\"", GateChain::gate, -10 - firstFault(text));
        }
        GateChain x = typed("l5;k0");
        CHECK.due("gate() too early", x.gate(), -15);
        CHECK.due("gate() too early again", x.gate(), -15);
        Check.put(x, " 0;");
        CHECK.due("gate() of the text typed on", x.gate(), 2);
    }

    private static int firstFault(String text) {
        return text.indexOf('x') >= 0 ? text.indexOf('x') : text.length();
    }

    private static void gateReadsAnew() {
        CHECK.sentence("(Read anew: as told, nothing HEARD or to be UNDONE, IMAGES are gone.)");
        String told = "n4;l12;l34;l56;k1 0;k2 1;k1 2;f1 2;";
        GateChain x = Check.told("n6;l1;l2;l3;l4;k0 0;k5 3;f0 5;f4 5;");
        x.opens(0, 0);
        x.keep(0);
        x.shuts(3, 77);
        x.keep(1);
        x.hears(5, 1);
        Check.put(x, told);
        x.gate();
        CHECK.same("all behind gate()", Drain.all(x), Drain.all(Check.told(told)));
        GateChain open = Check.told("l1;l2;l3;l4;k0 0;");
        open.opens(0, 0);
        open.shuts(3, 77);
        open.opens(0, 0);
        Check.put(open, told);
        open.gate();
        CHECK.due("now(0), read while it was open", open.now(0), NONE);
        CHECK.same("all behind gate(), read while it was open", Drain.all(open), Drain.all(Check.told(told)));
        CHECK.due("the trace is not told", traceBehindGate(), 11);
    }

    private static long traceBehindGate() {
        GateChain x = Check.told("l1;");
        x.mark(1, 0);
        x.gate();
        return x.trace();
    }

    private static void lockOfEachLock() {
        CHECK.sentence("Of a LOCK: 0 CODE, 1 what it SHOWS, 2 who KNOWS it (bits), 3 whether it is of THE RING (1, 0), "
                + "4 the one behind it in THE RING (NONE), 5 STEPS. BAD.");
        GateChain x = Check.told("n6;" + EIGHT + "k0 7;k5 7;");
        int[] last = {8, 0, 33, 1, 0, 2};
        for (int what = 0; what < 6; what++) {
            CHECK.due("lock(7, " + what + ")", x.lock(7, what), last[what]);
            CHECK.due("lock(8, " + what + ")", x.lock(8, what), BAD);
            CHECK.due("lock(-1, " + what + ")", x.lock(-1, what), BAD);
        }
        CHECK.due("lock(7, 6)", x.lock(7, 6), BAD);
        for (int far : Check.FAR) {
            CHECK.due("lock(" + far + ", 0)", x.lock(far, 0), BAD);
            CHECK.due("lock(0, " + far + ")", x.lock(0, far), BAD);
        }
    }

    private static void lockBehindInTheRing() {
        CHECK.sentence("4 the one behind it in THE RING (NONE)");
        CHECK.due("lock(0, 4) alone", Check.told("l1;").lock(0, 4), 0);
        GateChain x = Check.told("l1;l2;l3;l4;k0 2;k0 3;");
        CHECK.due("lock(3, 4), the last", x.lock(3, 4), 0);
        x.opens(0, 2);
        x.shuts(1, 0);
        int[] behind = {NONE, 2, 1, NONE};
        for (int l = 0; l < 4; l++) {
            CHECK.due("lock(" + l + ", 4)", x.lock(l, 4), behind[l]);
            CHECK.due("lock(" + l + ", 3)", x.lock(l, 3), behind[l] == NONE ? 0 : 1);
        }
    }

    private static void personOfEachPerson() {
        CHECK.sentence("Of a PERSON: 0 LOCKS that he KNOWS (bits), 1 FRIENDS (bits), 2 whether he GETS IN (1, 0), "
                + "3 ROUNDS (NONE). BAD.");
        GateChain x = Check.told("n6;" + EIGHT + "k5 0;k5 7;f5 0;f5 4;");
        int[] last = {129, 17, 1, 0};
        int[] alone = {0, 0, 0, NONE};
        for (int what = 0; what < 4; what++) {
            CHECK.due("person(5, " + what + ")", x.person(5, what), last[what]);
            CHECK.due("person(3, " + what + ")", x.person(3, what), alone[what]);
            CHECK.due("person(6, " + what + ")", x.person(6, what), BAD);
            CHECK.due("person(-1, " + what + ")", x.person(-1, what), BAD);
        }
        CHECK.due("person(5, 4)", x.person(5, 4), BAD);
        for (int far : Check.FAR) {
            CHECK.due("person(" + far + ", 0)", x.person(far, 0), BAD);
            CHECK.due("person(0, " + far + ")", x.person(0, far), BAD);
        }
    }
}
