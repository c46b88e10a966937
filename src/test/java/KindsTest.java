/** Promises 23 to 27: mark, keep, back, count, trace. */
public final class KindsTest {
    private static final Check CHECK = new Check();
    private static final int[] STRANGE = {-1, 9, 1000, Integer.MAX_VALUE, Integer.MIN_VALUE};

    public static void main(String[] args) {
        mark();
        images();
        count();
        CHECK.end();
    }

    private static void mark() {
        GateChain x = Check.told("n3;l123;l45;l900;l7;l0;k0 0;k1 0;k2 1;k0 4;");
        x.opens(0, 0);
        x.shuts(2, 129);
        long trace = 0;
        int[][] marks = {
            {2, 2 + 4, 2 - 4, (2 + 4) * 2, 2 - 4, 2 + 129},
            {1, 1 + 9, 1 - 4, (1 + 9) * 2, 1 - 4 + 1, 1},
            {0, 1, -4, 2, -4 + 2, 0},
            {0, 3, -4, 6, -4 + 3, 0},
            {1, 1, -3, 2, -3 + 4, 1},
        };
        long[] traces = {1, 11, 101, 1011, 10101, 100001};
        CHECK.due("trace() ahead", x.trace(), 0);
        for (int l = 0; l < 5; l++) {
            for (int kind = 0; kind < 6; kind++) {
                CHECK.due("mark(" + kind + ", " + l + ")", x.mark(kind, l), marks[l][kind]);
                trace += traces[kind];
                CHECK.due("trace() behind it", x.trace(), trace);
            }
        }
        for (int s : STRANGE) {
            CHECK.due("mark(" + s + ", 0)", x.mark(s, 0), GateChain.NO);
            CHECK.due("mark(0, " + s + ")", x.mark(0, s), GateChain.NO);
        }
        CHECK.due("mark(6, 0)", x.mark(6, 0), GateChain.NO);
        CHECK.due("mark(0, 5)", x.mark(0, 5), GateChain.NO);
        CHECK.due("trace() behind refused ones", x.trace(), trace);
        x.undo();
        CHECK.due("trace() behind undo()", x.trace(), trace);
    }

    private static void images() {
        GateChain x = Check.told("n3;l123;l45;l900;l7;k0 0;k0 1;k1 2;k2 3;f0 1;");
        for (int s : STRANGE) {
            CHECK.due("keep(" + s + ")", x.keep(s), GateChain.BAD);
            CHECK.due("back(" + s + ")", x.back(s), GateChain.BAD);
        }
        CHECK.due("keep(2)", x.keep(2), GateChain.BAD);
        CHECK.due("back(2)", x.back(2), GateChain.BAD);
        CHECK.due("back(0) of none", x.back(0), GateChain.STATE);
        x.opens(0, 0);
        x.tells(0, 1, 0);
        CHECK.due("keep(0)", x.keep(0), 4);
        String first = Check.look(x);
        CHECK.due("back(1) of none", x.back(1), GateChain.STATE);
        x.changes(0, 500);
        x.shuts(2, 5);
        CHECK.due("keep(1)", x.keep(1), 3);
        String second = Check.look(x);
        x.opens(1, 2);
        x.shuts(0, 8);
        CHECK.due("back(0)", x.back(0), 4);
        CHECK.same("back(0)", Check.look(x), first);
        CHECK.due("undo() of the image", x.undo(), 1);
        CHECK.due("lock(0, 2) behind it", x.lock(0, 2), 1);
        CHECK.due("back(1)", x.back(1), 3);
        CHECK.same("back(1)", Check.look(x), second);
        CHECK.due("undo() of image 1", x.undo(), 3);
        CHECK.due("undo() of image 1", x.undo(), 2);
        CHECK.same("all undone to image 0", Check.look(x), first);
        notInImages();
    }

    private static void notInImages() {
        GateChain x = Check.told("n3;l123;l45;l900;l7;k0 0;");
        x.opens(0, 0);
        x.shuts(2, 5);
        x.keep(0);
        x.hears(123, 1);
        x.mark(1, 0);
        x.type(108);
        CHECK.due("back(0)", x.back(0), 3);
        CHECK.due("heard is not of an image", x.count(2), 1);
        CHECK.due("codes are not of an image", x.codes(0), 243);
        CHECK.due("the trace is not of an image", x.trace(), 11);
        CHECK.due("the text is not of an image", x.count(4), 1);
        x.tries(0, 1);
        x.hears(124, 1);
        x.undo();
        CHECK.due("heard is not undone", x.count(2), 2);
    }

    private static void count() {
        GateChain x = Check.told("n5;l1;l2;k0 0;");
        x.hears(1, 1);
        x.hears(2, 1);
        x.opens(0, 0);
        x.type(65);
        int[] counts = {5, 2, 2, 1, 1};
        for (int what = 0; what < 5; what++) {
            CHECK.due("count(" + what + ")", x.count(what), counts[what]);
        }
        CHECK.due("count(5)", x.count(5), GateChain.BAD);
        for (int s : STRANGE) {
            CHECK.due("count(" + s + ")", x.count(s), GateChain.BAD);
        }
    }
}
