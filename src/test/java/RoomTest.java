import com.sun.management.ThreadMXBean;
import java.lang.management.ManagementFactory;
import java.lang.reflect.Array;
import java.lang.reflect.Field;
import java.lang.reflect.Modifier;
import java.util.ArrayDeque;
import java.util.Collections;
import java.util.Deque;
import java.util.IdentityHashMap;
import java.util.Set;

/** All calls of one run live in one room: an object holds little, and no call makes another one. */
public final class RoomTest {
    private static final Check CHECK = new Check();
    // Far below the room (600,000 objects and 7.3 million fields and elements), for a thousand objects in one run.
    private static final int MOST_OBJECTS = 300;
    private static final int MOST_ELEMENTS = 4000;
    private static final int CALLS = 512;
    private static final int TIMES = 20;
    private static final String TEXT = "n6;l123;l45;l900;l7;k0 0;k0 1;k1 2;k2 3;k3 1;f0 1;f4 5;f1 4;";

    private static Set<Object> held;
    private static int elements;

    public static void main(String[] args) throws Exception {
        heldIsLittle();
        heldIsTheSameBehindARun();
        nothingIsMade();
        CHECK.end();
    }

    private static void heldIsLittle() throws Exception {
        walk(new GateChain());
        System.out.println("one object: " + held.size() + " objects and arrays, " + elements + " fields and elements");
        CHECK.due("few objects", held.size() <= MOST_OBJECTS ? 1 : 0, 1);
        CHECK.due("few elements", elements <= MOST_ELEMENTS ? 1 : 0, 1);
    }

    private static void heldIsTheSameBehindARun() throws Exception {
        GateChain x = new GateChain();
        walk(x);
        Set<Object> first = held;
        int before = elements;
        CHECK.due("a run uses an object up to its last call", run(x), CALLS);
        walk(x);
        CHECK.due("objects held behind a run", held.size(), first.size());
        CHECK.due("elements held behind a run", elements, before);
        CHECK.due("they are those that the constructor made", first.containsAll(held) ? 1 : 0, 1);
    }

    // The machine itself may make something the first times, so the least of several runs is what the class makes.
    private static void nothingIsMade() {
        ThreadMXBean thread = (ThreadMXBean) ManagementFactory.getThreadMXBean();
        if (!thread.isThreadAllocatedMemorySupported() || !thread.isThreadAllocatedMemoryEnabled()) {
            System.out.println("this machine does not tell what is made");
            return;
        }
        long least = Long.MAX_VALUE;
        for (int time = 0; time < TIMES; time++) {
            GateChain x = new GateChain();
            long before = thread.getCurrentThreadAllocatedBytes();
            run(x);
            least = Math.min(least, thread.getCurrentThreadAllocatedBytes() - before);
        }
        CHECK.due("bytes that 512 calls make", least, 0);
    }

    /** Every call, done and refused, until the object is used up: how many calls it took. */
    private static int run(GateChain x) {
        int calls = 0;
        for (int i = 0; i < TEXT.length(); i++) {
            x.type(TEXT.charAt(i));
            calls++;
        }
        x.gate();
        calls++;
        for (int i = 0; calls < CALLS; i++) {
            one(x, i % 30, i / 30);
            calls++;
        }
        return calls;
    }

    private static long one(GateChain x, int which, int turn) {
        int l = turn % 4;
        switch (which) {
            case 0: return x.hears(500, 1);
            case 1: return x.hears(55, 1 + turn % 2);
            case 2: return x.codes(turn % 3);
            case 3: return x.ask();
            case 4: return x.opens(0, turn % 2);
            case 5: return x.left(3);
            case 6: return x.keep(turn % 3);
            case 7: return x.shuts(3, turn);
            case 8: return x.now(turn % 6);
            case 9: return x.tries(3, 7);
            case 10: return x.hangs(1, 2);
            case 11: return x.hangs(0, turn % 2);
            case 12: return x.changes(2, 7);
            case 13: return x.shuts(2, 17);
            case 14: return x.tells(2, 4, 3);
            case 15: return x.undo();
            case 16: return x.lock(l, turn % 7);
            case 17: return x.person(l, turn % 5);
            case 18: return x.jam(turn % 9);
            case 19: return x.near(l, turn);
            case 20: return x.odds(turn, turn % 2);
            case 21: return x.mark(turn % 7, l);
            case 22: return x.back(turn % 3);
            case 23: return x.now(3);
            case 24: return x.now(4);
            case 25: return x.count(turn % 6);
            case 26: return x.trace();
            case 27: return x.type('x');
            case 28: return x.gate();
            default: return turn % 4 == 3 ? x.forget() : x.clear();
        }
    }

    /** Goes through all that an object holds. */
    private static void walk(Object root) throws Exception {
        held = Collections.newSetFromMap(new IdentityHashMap<>());
        elements = 0;
        Deque<Object> open = new ArrayDeque<>();
        held.add(root);
        open.add(root);
        while (!open.isEmpty()) {
            Object o = open.remove();
            if (o.getClass().isArray()) {
                array(o, open);
            } else {
                fields(o, open);
            }
        }
    }

    private static void array(Object row, Deque<Object> open) {
        int length = Array.getLength(row);
        elements += length;
        if (row instanceof Object[] parts) {
            for (Object part : parts) {
                meet(part, open);
            }
        }
    }

    private static void fields(Object o, Deque<Object> open) throws Exception {
        for (Field f : o.getClass().getDeclaredFields()) {
            if (!Modifier.isStatic(f.getModifiers())) {
                elements++;
                if (!f.getType().isPrimitive()) {
                    f.setAccessible(true);
                    meet(f.get(o), open);
                }
            }
        }
    }

    private static void meet(Object part, Deque<Object> open) {
        if (part != null && held.add(part)) {
            open.add(part);
        }
    }
}
