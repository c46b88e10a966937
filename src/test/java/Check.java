import java.io.IOException;
import java.nio.file.Files;
import java.nio.file.Path;
import java.util.function.Consumer;
import java.util.function.ToLongFunction;

/** What all tests of the project share: telling wrong answers, and ending with 1 if there was one. */
final class Check {
    /** Numbers that stand far from all that any call takes. */
    static final int[] FAR = {-1, -2, -9, 1000, 1 << 16, -1000000, Integer.MAX_VALUE, Integer.MIN_VALUE};

    private int wrong = 0;
    private int made = 0;
    private String document = null;
    private String sentence = "";

    void due(String call, long got, long want) {
        made++;
        if (got != want) {
            wrong++;
            if (wrong <= 40) {
                System.out.println(sentence + call + " answered " + got + ", due is " + want);
            }
        }
    }

    /** Names what the next answers hold to. It must stand in the document, so that no test outlives its words. */
    void sentence(String words) {
        made++;
        sentence = "\"" + words + "\": ";
        if (!document().contains(words)) {
            wrong++;
            System.out.println(sentence + "does not stand in the document");
        }
    }

    private String document() {
        if (document == null) {
            try {
                String file = System.getProperty("gatechain.doc", "../shared/DOC.md");
                document = Files.readString(Path.of(file)).replaceAll("\\s+", " ");
            } catch (IOException e) {
                throw new IllegalStateException("the document can't be read", e);
            }
        }
        return document;
    }

    /**
     * A refused call: it answers what is due, and nothing changes. Of two objects made alike one is asked for it;
     * behind it both are emptied of all that they hold, and must tell the same.
     */
    void refused(String text, Consumer<GateChain> ahead, String call, ToLongFunction<GateChain> asked, long want) {
        GateChain one = told(text);
        GateChain other = told(text);
        ahead.accept(one);
        ahead.accept(other);
        due(call, asked.applyAsLong(one), want);
        same(call, Drain.all(one), Drain.all(other));
    }

    /** Puts a text into THE TEXT, byte by byte. */
    static void put(GateChain x, String text) {
        for (int i = 0; i < text.length(); i++) {
            x.type(text.charAt(i));
        }
    }

    /** A new object that has read a text. */
    static GateChain told(String text) {
        GateChain x = new GateChain();
        put(x, text);
        int items = x.gate();
        if (items < 0) {
            throw new IllegalStateException("a test's own text is wrong: " + text + " " + items);
        }
        return x;
    }

    /** All that the calls without a change tell of an object, as one text. */
    static String look(GateChain x) {
        StringBuilder s = new StringBuilder();
        for (int what = 0; what < 5; what++) {
            s.append(x.count(what)).append(' ').append(x.now(what)).append(' ');
        }
        for (int l = 0; l < 8; l++) {
            s.append('|');
            for (int what = 0; what < 6; what++) {
                s.append(x.lock(l, what)).append(' ');
            }
        }
        for (int p = 0; p < 6; p++) {
            s.append('|');
            for (int what = 0; what < 4; what++) {
                s.append(x.person(p, what)).append(' ');
            }
        }
        s.append('|').append(x.codes(0)).append(' ').append(x.codes(1)).append(' ').append(x.trace());
        return s.toString();
    }

    void same(String call, String got, String want) {
        made++;
        if (!got.equals(want)) {
            wrong++;
            System.out.println(sentence + call + " left\n  " + got + "\ndue is\n  " + want);
        }
    }

    void end() {
        System.out.println(made - wrong + " of " + made + " answers are as due");
        if (wrong != 0 || made == 0) {
            System.exit(1);
        }
    }
}
