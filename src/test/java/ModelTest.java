import java.util.ArrayList;
import java.util.List;
import java.util.Random;

/** Runs of calls by chance (always the same ones), each answer held against the model's. */
public final class ModelTest {
    private static final int RUNS = 3000;
    private static final int CALLS = 512;
    private static final String[] NAMES = {
        "lock", "person", "opens", "shuts", "hangs", "tells", "changes", "tries", "undo", "now",
        "left", "jam", "near", "odds", "hears", "forget", "codes", "ask", "mark", "keep", "back",
        "count", "trace", "clear", "gate", "type",
    };
    // How often each of these is called: deeds often, what empties or costs much seldom.
    private static final int[] WEIGHTS = {
        14, 8, 14, 14, 14, 8, 6, 10, 5, 9, 6, 4, 1, 3, 4, 1, 3, 1, 6, 2, 2, 4, 1, 0, 0, 0,
    };

    private static final Check CHECK = new Check();
    private static Random chance;
    private static GateChain x;
    private static Model model;
    private static List<String> calls;
    private static int made;
    private static boolean differed;

    public static void main(String[] args) {
        for (int run = 0; run < RUNS && !differed; run++) {
            chance = new Random(run);
            x = new GateChain();
            model = new Model();
            calls = new ArrayList<>();
            made = 0;
            oneRun(run % 3 == 2);
        }
        CHECK.end();
    }

    private static void oneRun(boolean faulty) {
        tell(faulty);
        while (made < CALLS && !differed) {
            int dice = chance.nextInt(800);
            if (dice == 0) {
                tell(faulty);
            } else if (faulty && dice < 60) {
                tell(true);
            } else if (dice < 62) {
                both(NAMES[chance.nextInt(NAMES.length)], wild(), wild(), wild());
            } else {
                String name = weighted();
                both(name, argument(name, 0), argument(name, 1), argument(name, 2));
            }
        }
    }

    private static String weighted() {
        int all = 0;
        for (int w : WEIGHTS) {
            all += w;
        }
        int dice = chance.nextInt(all);
        int i = 0;
        while (dice >= WEIGHTS[i]) {
            dice -= WEIGHTS[i];
            i++;
        }
        return NAMES[i];
    }

    private static int wild() {
        int[] strange = {-1, -2, -9, 6, 7, 8, 9, 10, 11, 15, 16, 255, 256, 999, 1000,
            Integer.MAX_VALUE, Integer.MIN_VALUE, 0, 1, 2, 3};
        return strange[chance.nextInt(strange.length)];
    }

    private static int argument(String name, int place) {
        if (chance.nextInt(60) == 0) {
            return wild();
        }
        boolean isCode = place == 1 && (name.equals("shuts") || name.equals("changes") || name.equals("tries"));
        if (isCode && chance.nextInt(2) == 0) {
            // Codes of locks, so that tries open the gate.
            return (int) Math.max(0, model.call("lock", chance.nextInt(8), 0, 0));
        }
        if (isCode || name.equals("hears") && place == 0) {
            return chance.nextInt(1000);
        }
        if (name.equals("hears")) {
            return chance.nextInt(4) & chance.nextInt(4);
        }
        if (place == 0 && (name.equals("odds")) || name.equals("near") && place == 1) {
            return chance.nextInt(17);
        }
        int persons = (int) model.call("count", 0, 0, 0);
        int locks = (int) model.call("count", 1, 0, 0);
        int bound = name.equals("keep") || name.equals("back") ? 2 : place == 0 && isDeedOfPerson(name)
                ? persons : Math.max(2, locks);
        return chance.nextInt(bound + (chance.nextInt(10) == 0 ? 1 : 0));
    }

    private static boolean isDeedOfPerson(String name) {
        return name.equals("opens") || name.equals("hangs") || name.equals("tells") || name.equals("changes")
                || name.equals("person");
    }

    private static void tell(boolean faulty) {
        StringBuilder text = new StringBuilder();
        int persons = 3;
        if (chance.nextInt(4) > 0) {
            persons = 1 + chance.nextInt(6);
            text.append('n').append(persons).append(';');
        }
        int locks = chance.nextInt(30) == 0 ? 0 : 1 + chance.nextInt(8);
        for (int l = 0; l < locks; l++) {
            text.append("l").append(blank()).append(code()).append(';');
        }
        int items = chance.nextInt(20);
        for (int i = 0; i < items && text.length() < 140; i++) {
            int p = chance.nextInt(persons);
            if (chance.nextInt(3) > 0 && locks > 0) {
                text.append('k').append(p).append(' ').append(chance.nextInt(locks)).append(';').append(blank());
            } else if (persons > 1) {
                int q = (p + 1 + chance.nextInt(persons - 1)) % persons;
                text.append("f").append(blank()).append(p).append(' ').append(q).append(blank()).append(';');
            }
        }
        if (faulty && chance.nextInt(4) > 0) {
            spoil(text);
        }
        type(text);
    }

    private static String blank() {
        return chance.nextInt(12) == 0 ? " " : "";
    }

    private static int code() {
        int[] bounds = {1, 10, 100, 1000};
        return chance.nextInt(bounds[chance.nextInt(4)]);
    }

    private static void spoil(StringBuilder text) {
        String signs = "nlkf;; 0123456789" + (char) 200 + (char) 0 + "Zax";
        int times = 1 + chance.nextInt(2);
        for (int i = 0; i < times; i++) {
            int at = chance.nextInt(text.length() + 1);
            char sign = signs.charAt(chance.nextInt(signs.length()));
            int how = chance.nextInt(3);
            if (how == 0 || at == text.length()) {
                text.insert(at, sign);
            } else if (how == 1) {
                text.setCharAt(at, sign);
            } else {
                text.setLength(at);
            }
        }
    }

    private static void type(StringBuilder text) {
        for (int i = 0; i < text.length() && i < 150 && made < CALLS; i++) {
            made++;
            CHECK.due("type(" + (int) text.charAt(i) + ")", x.type(text.charAt(i)),
                    model.call("type", text.charAt(i), 0, 0));
        }
        calls.add("text \"" + text + "\"");
        both("gate", 0, 0, 0);
        if (chance.nextInt(4) > 0) {
            both("clear", 0, 0, 0);
        }
    }

    private static void both(String name, int a, int b, int c) {
        if (made >= CALLS) {
            return;
        }
        made++;
        String call = name + "(" + a + ", " + b + ", " + c + ")";
        long got = real(name, a, b, c);
        long want = model.call(name, a, b, c);
        calls.add(call + " = " + got);
        CHECK.due(call, got, want);
        if (got != want) {
            differed = true;
            System.out.println("behind: " + calls);
        }
    }

    private static long real(String name, int a, int b, int c) {
        switch (name) {
            case "type": return x.type(a);
            case "clear": return x.clear();
            case "gate": return x.gate();
            case "lock": return x.lock(a, b);
            case "person": return x.person(a, b);
            case "opens": return x.opens(a, b);
            case "shuts": return x.shuts(a, b);
            case "hangs": return x.hangs(a, b);
            case "tells": return x.tells(a, b, c);
            case "changes": return x.changes(a, b);
            case "tries": return x.tries(a, b);
            case "undo": return x.undo();
            case "now": return x.now(a);
            case "left": return x.left(a);
            case "jam": return x.jam(a);
            case "near": return x.near(a, b);
            case "odds": return x.odds(a, b);
            case "hears": return x.hears(a, b);
            case "forget": return x.forget();
            case "codes": return x.codes(a);
            case "ask": return x.ask();
            case "mark": return x.mark(a, b);
            case "keep": return x.keep(a);
            case "back": return x.back(a);
            case "count": return x.count(a);
            case "trace": return x.trace();
            default: throw new IllegalArgumentException(name);
        }
    }
}
