/** Promises 1 to 6: a new object, the text, what it tells. */
public final class TextTest {
    private static final Check CHECK = new Check();

    public static void main(String[] args) {
        aNewObject();
        typeAndClear();
        items();
        faults();
        readAnew();
        lockAndPerson();
        CHECK.end();
    }

    private static void aNewObject() {
        GateChain x = new GateChain();
        int[] counts = {3, 0, 0, 0, 0};
        for (int what = 0; what < 5; what++) {
            CHECK.due("new count(" + what + ")", x.count(what), counts[what]);
        }
        CHECK.due("new trace()", x.trace(), 0);
        CHECK.due("new person(2, 0)", x.person(2, 0), 0);
        CHECK.due("new person(2, 1)", x.person(2, 1), 0);
        CHECK.due("new person(3, 0)", x.person(3, 0), GateChain.BAD);
        CHECK.due("new lock(0, 0)", x.lock(0, 0), GateChain.BAD);
        CHECK.due("new now(0)", x.now(0), GateChain.NONE);
        CHECK.due("new now(1)", x.now(1), 0);
        CHECK.due("new back(0)", x.back(0), GateChain.STATE);
        CHECK.due("new keep(0)", x.keep(0), 0);
        CHECK.due("new kept back(0)", x.back(0), 0);
        CHECK.due("new changes(0, 0)", x.changes(0, 0), GateChain.STATE);
        CHECK.due("new tries(0, 0)", x.tries(0, 0), GateChain.BAD);
        CHECK.due("new mark(0, 0)", x.mark(0, 0), GateChain.NO);
        CHECK.due("new odds(5, 1)", x.odds(5, 1), 1);
    }

    private static void typeAndClear() {
        GateChain x = new GateChain();
        CHECK.due("clear() of nothing", x.clear(), 0);
        CHECK.due("type(0)", x.type(0), 1);
        CHECK.due("type(255)", x.type(255), 2);
        CHECK.due("type(-1)", x.type(-1), GateChain.BAD);
        CHECK.due("type(256)", x.type(256), GateChain.BAD);
        CHECK.due("type(MAX)", x.type(Integer.MAX_VALUE), GateChain.BAD);
        CHECK.due("type(MIN)", x.type(Integer.MIN_VALUE), GateChain.BAD);
        CHECK.due("count(4)", x.count(4), 2);
        for (int i = 3; i <= 150; i++) {
            CHECK.due("type " + i, x.type(32), i);
        }
        CHECK.due("type beyond 150", x.type(32), GateChain.FULL);
        CHECK.due("type(256) when full", x.type(256), GateChain.BAD);
        CHECK.due("count(4) when full", x.count(4), 150);
        CHECK.due("clear()", x.clear(), 150);
        CHECK.due("clear() again", x.clear(), 0);
        CHECK.due("type behind clear()", x.type(32), 1);
    }

    private static void items() {
        told("", 0);
        told("     ", 0);
        told("n6;", 1);
        told("n1;", 1);
        told("  n  2  ;  l  5  ;k 0 0;k 0 0;f 0 1;f 1 0 ; ", 6);
        told("l0;l999;k2 1;f0 2;", 4);
        told("l1;l1;l1;l1;l1;l1;l1;l1;", 8);
        told("l7;k0 0;", 2);
        String longest = "n6;l999;".concat("k5 0;".repeat(28)).concat("  ");
        CHECK.due("the longest text's length", longest.length(), 150);
        told(longest, 30);
    }

    private static void told(String text, int items) {
        GateChain x = new GateChain();
        Check.put(x, text);
        CHECK.due("gate() of \"" + text + "\"", x.gate(), items);
        CHECK.due("count(4) behind it", x.count(4), 0);
    }

    private static void faults() {
        fault("n", 1);
        fault("n  ", 3);
        fault("n2", 2);
        fault("n 2 ", 4);
        fault("n0;", 1);
        fault("n7;", 1);
        fault("n 10;", 2);
        fault("n2;n2;", 3);
        fault("l1;n2;", 3);
        fault("n2;l1;n2;", 6);
        fault("l1000;", 1);
        fault("l99999999999999999999;", 1);
        fault("l4294967296;", 1);
        fault("l01;", 1);
        fault("l 00;", 2);
        fault("l1 1;", 3);
        fault("l1l;", 2);
        fault("ln1;", 0);
        fault("l;", 1);
        fault(";", 0);
        fault("  ;", 2);
        fault("7;", 0);
        fault("1000;", 0);
        fault("x1;", 0);
        fault("L1;", 0);
        fault("l1;;", 3);
        fault("l1;\t", 3);
        fault("l1,", 2);
        fault("l-1;", 1);
        fault("l1" + (char) 200, 2);
        fault("l1" + (char) 0, 2);
        fault("lk", 0);
        fault("la1;", 0);
        fault("lz1;", 0);
        fault("l1;zz1;", 3);
        fault("l1;kk0 0;", 3);
        fault("k0 0;", 3);
        fault("k3 0;", 1);
        fault("l1;k0 1;", 6);
        fault("l1;k0 1", 6);
        fault("l1;k0 0 0;", 8);
        fault("l1;k0;", 5);
        fault("l1;k0 01;", 6);
        fault("l1;k00;", 4);
        fault("k0", 2);
        fault("k0 ", 3);
        fault("f0 0;", 3);
        fault("f1 1;", 3);
        fault("f0 3;", 3);
        fault("f3 0;", 1);
        fault("f0 1", 4);
        fault("f0 1;f", 6);
        fault("n1;f0 0;", 6);
        fault("n1;f1 0;", 4);
        fault("n1;l1;k1 0;", 7);
        fault("l1;l1;l1;l1;l1;l1;l1;l1;l1;", 24);
        fault("l1;l1;l1;l1;l1;l1;l1;l1;  l", 26);
        fault("l1".concat(" ".repeat(148)), 150);
    }

    private static void fault(String text, int place) {
        GateChain x = Check.told("n4;l12;l34;k1 0;k2 1;f1 2;");
        x.opens(1, 0);
        x.keep(1);
        x.hears(123, 1);
        Check.put(x, text);
        String before = Check.look(x);
        CHECK.due("gate() of \"" + text + "\"", x.gate(), -10 - place);
        CHECK.same("the fault of \"" + text + "\"", Check.look(x), before);
        CHECK.due("back(1) behind the fault", x.back(1), 2);
        CHECK.due("clear() behind the fault", x.clear(), text.length());
    }

    private static void readAnew() {
        GateChain x = Check.told("n5;l12;l34;k1 0;k2 1;f1 2;");
        x.opens(1, 0);
        x.keep(0);
        x.keep(1);
        x.shuts(1, 7);
        x.hears(1, 1);
        x.mark(0, 0);
        CHECK.due("gate() of nothing", x.gate(), 0);
        CHECK.due("persons of a text without n", x.count(0), 3);
        CHECK.due("locks of a text without any", x.count(1), 0);
        CHECK.due("heard behind gate()", x.count(2), 0);
        CHECK.due("undoable behind gate()", x.count(3), 0);
        CHECK.due("undo() behind gate()", x.undo(), GateChain.STATE);
        CHECK.due("codes(0) behind gate()", x.codes(0), 1000);
        CHECK.due("back(0) behind gate()", x.back(0), GateChain.STATE);
        CHECK.due("back(1) behind gate()", x.back(1), GateChain.STATE);
        CHECK.due("now(0) behind gate()", x.now(0), GateChain.NONE);
        CHECK.due("now(1) behind gate()", x.now(1), 0);
        CHECK.due("person(1, 0) behind gate()", x.person(1, 0), 0);
        CHECK.due("person(1, 1) behind gate()", x.person(1, 1), 0);
        CHECK.due("trace() behind gate()", x.trace(), 1);
        Check.put(x, "l5;k0 0;");
        CHECK.due("gate() again", x.gate(), 2);
        CHECK.due("lock(0, 1) read anew", x.lock(0, 1), 0);
        CHECK.due("lock(0, 2) read anew", x.lock(0, 2), 1);
        CHECK.due("lock(1, 0) read anew", x.lock(1, 0), GateChain.BAD);
    }

    private static void lockAndPerson() {
        GateChain x = Check.told("n4;l123;l45;l900;k0 0;k3 0;k1 2;f0 1;f3 1;");
        int[][] locks = {{123, 0, 9, 1, 1, 6}, {45, 0, 0, 1, 2, 9}, {900, 0, 2, 1, 0, 1}};
        for (int l = 0; l < 3; l++) {
            for (int what = 0; what < 6; what++) {
                CHECK.due("lock(" + l + ", " + what + ")", x.lock(l, what), locks[l][what]);
            }
        }
        int[][] persons = {{1, 2, 1, 0}, {4, 9, 1, 0}, {0, 0, 0, -9}, {1, 2, 1, 0}};
        for (int p = 0; p < 4; p++) {
            for (int what = 0; what < 4; what++) {
                CHECK.due("person(" + p + ", " + what + ")", x.person(p, what), persons[p][what]);
            }
        }
        int[] strange = {-1, 8, 64, -1000000, Integer.MAX_VALUE, Integer.MIN_VALUE};
        for (int s : strange) {
            CHECK.due("lock(" + s + ", 0)", x.lock(s, 0), GateChain.BAD);
            CHECK.due("lock(0, " + s + ")", x.lock(0, s), GateChain.BAD);
            CHECK.due("person(" + s + ", 0)", x.person(s, 0), GateChain.BAD);
            CHECK.due("person(0, " + s + ")", x.person(0, s), GateChain.BAD);
        }
        CHECK.due("lock(3, 0)", x.lock(3, 0), GateChain.BAD);
        CHECK.due("lock(0, 6)", x.lock(0, 6), GateChain.BAD);
        CHECK.due("person(4, 0)", x.person(4, 0), GateChain.BAD);
        CHECK.due("person(0, 4)", x.person(0, 4), GateChain.BAD);
        x.opens(0, 0);
        x.shuts(2, 999);
        CHECK.due("lock(1, 3) beside", x.lock(1, 3), 0);
        CHECK.due("lock(1, 4) beside", x.lock(1, 4), GateChain.NONE);
        CHECK.due("lock(1, 5) beside", x.lock(1, 5), 9);
        CHECK.due("lock(0, 4) over it", x.lock(0, 4), 2);
        CHECK.due("lock(0, 5) of 999 to 123", x.lock(0, 5), 2 + 3 + 4);
        GateChain y = Check.told("l555;l505;");
        CHECK.due("lock(0, 5) of 000 to 555", y.lock(0, 5), 15);
        CHECK.due("lock(1, 5) of 000 to 505", y.lock(1, 5), 10);
    }
}
