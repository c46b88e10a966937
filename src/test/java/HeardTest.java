/** Promises 19 to 22: hears, forget, codes, ask. */
public final class HeardTest {
    private static final Check CHECK = new Check();

    public static void main(String[] args) {
        hearsAndForget();
        codes();
        ask();
        CHECK.end();
    }

    private static void hearsAndForget() {
        GateChain x = new GateChain();
        CHECK.due("forget() of nothing", x.forget(), 0);
        CHECK.due("hears(-1, 0)", x.hears(-1, 0), GateChain.BAD);
        CHECK.due("hears(1000, 0)", x.hears(1000, 0), GateChain.BAD);
        CHECK.due("hears(0, -1)", x.hears(0, -1), GateChain.BAD);
        CHECK.due("hears(0, 4)", x.hears(0, 4), GateChain.BAD);
        CHECK.due("hears(MIN, MAX)", x.hears(Integer.MIN_VALUE, Integer.MAX_VALUE), GateChain.BAD);
        CHECK.due("count(2)", x.count(2), 0);
        CHECK.due("hears(0, 0)", x.hears(0, 0), 1);
        CHECK.due("hears(999, 0)", x.hears(999, 0), 2);
        CHECK.due("hears(999, 0) again", x.hears(999, 0), 3);
        CHECK.due("hears(123, 3)", x.hears(123, 3), 4);
        CHECK.due("hears beyond 4", x.hears(5, 0), GateChain.FULL);
        CHECK.due("hears BAD when full", x.hears(5, 4), GateChain.BAD);
        CHECK.due("count(2) when full", x.count(2), 4);
        CHECK.due("codes(0) when full", x.codes(0), 1);
        CHECK.due("codes(1) when full", x.codes(1), 123);
        CHECK.due("forget()", x.forget(), 4);
        CHECK.due("forget() again", x.forget(), 0);
        CHECK.due("codes(0) behind forget()", x.codes(0), 1000);
        CHECK.due("codes(1) behind forget()", x.codes(1), 0);
        CHECK.due("hears behind forget()", x.hears(0, 0), 1);
        CHECK.due("codes(0) without 0", x.codes(0), 729);
        CHECK.due("codes(1) without 0", x.codes(1), 111);
    }

    private static void codes() {
        GateChain x = new GateChain();
        int[] parts = {729, 243, 27, 1};
        for (int right = 0; right < 4; right++) {
            x.hears(508, right);
            CHECK.due("codes(0) of " + right + " right", x.codes(0), parts[right]);
            x.forget();
        }
        x.hears(100, 3);
        x.hears(100, 2);
        CHECK.due("codes(0) where none can be", x.codes(0), 0);
        CHECK.due("codes(1) where none can be", x.codes(1), GateChain.NONE);
        CHECK.due("ask() where none can be", x.ask(), GateChain.NONE);
        for (int what : new int[] {-1, 2, Integer.MAX_VALUE, Integer.MIN_VALUE}) {
            CHECK.due("codes(" + what + ")", x.codes(what), GateChain.BAD);
        }
    }

    private static void ask() {
        GateChain x = new GateChain();
        CHECK.due("ask() of 1000", x.ask(), GateChain.NONE);
        x.hears(7, 3);
        CHECK.due("ask() of 1", x.ask(), GateChain.NONE);
        x.forget();
        int[] few = {123, 2, 294, 11};
        for (int code : few) {
            x.hears(code, 0);
        }
        CHECK.due("codes(0) just beyond what may be asked", x.codes(0), 252);
        CHECK.due("ask() of 252", x.ask(), GateChain.NONE);
        x.forget();
        int[][][] heard = {
            {{500, 1}}, {{500, 2}}, {{999, 1}}, {{123, 1}, {145, 2}}, {{123, 0}, {456, 1}},
            {{123, 0}, {456, 0}, {789, 1}}, {{12, 2}, {13, 2}}, {{12, 2}, {113, 2}},
            {{0, 0}, {111, 0}, {222, 0}}, {{0, 0}, {111, 0}, {222, 0}, {333, 0}}, {{0, 1}, {0, 1}, {9, 1}},
            {{123, 0}, {2, 0}, {294, 0}, {11, 0}},
        };
        for (int[][] all : heard) {
            for (int[] h : all) {
                x.hears(h[0], h[1]);
            }
            CHECK.due("ask() of " + java.util.Arrays.deepToString(all), x.ask(), ByHand.question(all));
            CHECK.due("ask() again", x.ask(), ByHand.question(all));
            x.forget();
        }
    }
}
