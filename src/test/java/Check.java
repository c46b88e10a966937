/** What all tests of the project share: telling wrong answers, and ending with 1 if there was one. */
final class Check {
    private int wrong = 0;
    private int made = 0;

    void due(String call, long got, long want) {
        made++;
        if (got != want) {
            wrong++;
            if (wrong <= 40) {
                System.out.println(call + " answered " + got + ", due is " + want);
            }
        }
    }

    /** Puts a text into THE TEXT, byte by byte. */
    static void put(GateChain x, String text) {
        for (int i = 0; i < text.length(); i++) {
            x.type(text.charAt(i));
        }
    }

    /** A new object that has read a text. */
    static GateChain told(String text) {
        GateChain x = new GateChain();
        put(x, text);
        int items = x.gate();
        if (items < 0) {
            throw new IllegalStateException("a test's own text is wrong: " + text + " " + items);
        }
        return x;
    }

    /** All that the calls without a change tell of an object, as one text. */
    static String look(GateChain x) {
        StringBuilder s = new StringBuilder();
        for (int what = 0; what < 5; what++) {
            s.append(x.count(what)).append(' ').append(x.now(what)).append(' ');
        }
        for (int l = 0; l < 8; l++) {
            s.append('|');
            for (int what = 0; what < 6; what++) {
                s.append(x.lock(l, what)).append(' ');
            }
        }
        for (int p = 0; p < 6; p++) {
            s.append('|');
            for (int what = 0; what < 4; what++) {
                s.append(x.person(p, what)).append(' ');
            }
        }
        s.append('|').append(x.codes(0)).append(' ').append(x.codes(1)).append(' ').append(x.trace());
        return s.toString();
    }

    void same(String call, String got, String want) {
        made++;
        if (!got.equals(want)) {
            wrong++;
            System.out.println(call + " left\n  " + got + "\ndue is\n  " + want);
        }
    }

    void end() {
        System.out.println(made - wrong + " of " + made + " answers are as due");
        if (wrong != 0 || made == 0) {
            System.exit(1);
        }
    }
}
