/**
 * All that an object holds, found by calls that use it up: what may be undone, the images, what was heard, the text.
 * An object of up to four locks stays within its 512 calls.
 */
final class Drain {
    private final GateChain x;
    private final StringBuilder found = new StringBuilder();

    private Drain(GateChain x) {
        this.x = x;
    }

    static String all(GateChain x) {
        Drain d = new Drain(x);
        d.found.append(Check.look(x)).append(" ask ").append(x.ask());
        d.past();
        d.image(0);
        d.image(1);
        d.heard();
        d.text();
        return d.found.toString();
    }

    /** How the locks stand, in few calls. */
    private void locks() {
        found.append(" at ").append(x.now(0)).append(" ring ").append(x.now(1));
        int locks = x.count(1);
        for (int l = 0; l < locks; l++) {
            found.append(" lock");
            for (int what : new int[] {0, 1, 2, 4}) {
                found.append(' ').append(x.lock(l, what));
            }
        }
    }

    private void past() {
        int more = x.undo();
        for (int i = 0; i < 11 && more >= 0; i++) {
            found.append("\n  undone to ").append(more);
            locks();
            more = x.undo();
        }
        found.append("\n  undo ").append(more);
    }

    private void image(int image) {
        found.append("\n  image ").append(x.back(image)).append(" may undo ").append(x.count(3));
        locks();
        if (x.count(3) > 0) {
            x.undo();
            locks();
        }
    }

    private void heard() {
        found.append("\n  heard");
        for (int i = 0; i < 5; i++) {
            found.append(' ').append(x.hears(40 + i, 0)).append(' ').append(x.codes(0));
        }
        found.append(" forget ").append(x.forget());
    }

    private void text() {
        found.append("\n  text ").append(x.type(' ')).append(" gate ").append(x.gate());
        found.append(" persons ").append(x.count(0)).append(" locks ").append(x.count(1));
        locks();
        found.append(" clear ").append(x.clear());
    }
}
