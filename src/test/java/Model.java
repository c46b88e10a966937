import java.util.ArrayDeque;
import java.util.ArrayList;
import java.util.Arrays;
import java.util.Deque;
import java.util.HashMap;
import java.util.List;
import java.util.Map;
import java.util.TreeSet;
import java.util.regex.Matcher;
import java.util.regex.Pattern;

/**
 * The document once more, written apart from the program and in another way: the ring is a list,
 * what is known are sets, deeds copy all, shuttings are carried out and looked at. It is slow.
 */
final class Model {
    private static final int BAD = -1, STATE = -2, FULL = -3, NONE = -9, NO = -1000000;

    private static final class State {
        List<Integer> ring = new ArrayList<>();
        int open = NONE;
        List<Integer> codes = new ArrayList<>();
        List<Integer> shown = new ArrayList<>();
        List<TreeSet<Integer>> known = new ArrayList<>();
        Deque<State> past = new ArrayDeque<>();

        State copy(boolean withPast) {
            State s = new State();
            s.ring.addAll(ring);
            s.open = open;
            s.codes.addAll(codes);
            s.shown.addAll(shown);
            for (TreeSet<Integer> k : known) {
                s.known.add(new TreeSet<>(k));
            }
            if (withPast) {
                s.past.addAll(past);
            }
            return s;
        }

        boolean knows(int p, int l) {
            return known.get(p).contains(l);
        }

        boolean getsIn(int p) {
            return ring.stream().anyMatch(l -> knows(p, l));
        }
    }

    private final StringBuilder text = new StringBuilder();
    private final List<int[]> heard = new ArrayList<>();
    private final Map<Integer, State> images = new HashMap<>();
    private int persons = 3;
    private List<TreeSet<Integer>> friends = sets(3);
    private State s = new State();
    private long trace = 0;

    Model() {
        s.known = sets(3);
    }

    private static List<TreeSet<Integer>> sets(int n) {
        List<TreeSet<Integer>> all = new ArrayList<>();
        for (int i = 0; i < n; i++) {
            all.add(new TreeSet<>());
        }
        return all;
    }

    private static int bits(Iterable<Integer> all) {
        int bits = 0;
        for (int i : all) {
            bits |= 1 << i;
        }
        return bits;
    }

    private static int[] wheels(int n) {
        return new int[] {n / 100, n / 10 % 10, n % 10};
    }

    private static int steps(int a, int b) {
        int all = 0;
        for (int w = 0; w < 3; w++) {
            int figure = wheels(a)[w];
            int up = 0;
            while ((figure + up) % 10 != wheels(b)[w]) {
                up++;
            }
            all += up > 5 ? 10 - up : up;
        }
        return all;
    }

    private static int right(int a, int b) {
        int n = 0;
        for (int w = 0; w < 3; w++) {
            n += wheels(a)[w] == wheels(b)[w] ? 1 : 0;
        }
        return n;
    }

    private boolean noPerson(int p) {
        return p < 0 || p >= persons;
    }

    private boolean noLock(int l) {
        return l < 0 || l >= s.codes.size();
    }

    private static boolean noNumber(int n) {
        return n < 0 || n > 999;
    }

    long call(String name, int a, int b, int c) {
        switch (name) {
            case "type": return type(a);
            case "clear": { int n = text.length(); text.setLength(0); return n; }
            case "gate": return gate();
            case "lock": return lock(a, b);
            case "person": return person(a, b);
            case "opens": case "shuts": case "hangs": case "tells": case "changes": case "tries":
                return deed(name, a, b, c);
            case "undo": return undo();
            case "now": return now(a);
            case "left": return noLock(a) ? BAD : left(a);
            case "jam": return jam(a);
            case "near": return near(a, b);
            case "odds": return odds(a, b);
            case "hears": return hears(a, b);
            case "forget": { int n = heard.size(); heard.clear(); return n; }
            case "codes": return codes(a);
            case "ask": return ask();
            case "mark": return noLock(b) || a < 0 || a > 5 ? NO : mark(a, b);
            case "keep": return keep(a);
            case "back": return back(a);
            case "count": return count(a);
            case "trace": return trace;
            default: throw new IllegalArgumentException(name);
        }
    }

    private int type(int c) {
        if (c < 0 || c > 255) {
            return BAD;
        }
        if (text.length() == 150) {
            return FULL;
        }
        text.append((char) c);
        return text.length();
    }

    private static final class Fault extends Exception {
        private static final long serialVersionUID = 1L;
        final int place;

        Fault(int place) {
            super("fault");
            this.place = place;
        }
    }

    private List<String> tokens;
    private List<Integer> places;
    private int next;

    private int gate() {
        tokens = new ArrayList<>();
        places = new ArrayList<>();
        Matcher m = Pattern.compile("[a-z]+|[0-9]+|;|[^ ]", Pattern.DOTALL).matcher(text);
        while (m.find()) {
            tokens.add(m.group());
            places.add(m.start());
        }
        next = 0;
        State fresh = new State();
        int[] n = {3};
        List<int[]> knows = new ArrayList<>();
        List<int[]> befriended = new ArrayList<>();
        int items = 0;
        try {
            while (next < tokens.size()) {
                int at = places.get(next);
                String word = tokens.get(next++);
                if (word.equals("n") && items == 0) {
                    n[0] = number(1, 6);
                } else if (word.equals("l") && fresh.codes.size() < 8) {
                    fresh.codes.add(number(0, 999));
                } else if (word.equals("k")) {
                    knows.add(new int[] {number(0, n[0] - 1), number(0, fresh.codes.size() - 1)});
                } else if (word.equals("f")) {
                    int one = number(0, n[0] - 1);
                    int place = next < places.size() ? places.get(next) : text.length();
                    int other = number(0, n[0] - 1);
                    if (one == other) {
                        throw new Fault(place);
                    }
                    befriended.add(new int[] {one, other});
                } else {
                    throw new Fault(at);
                }
                if (next >= tokens.size()) {
                    throw new Fault(text.length());
                }
                if (!tokens.get(next).equals(";")) {
                    throw new Fault(places.get(next));
                }
                next++;
                items++;
            }
        } catch (Fault f) {
            return -10 - f.place;
        }
        begin(fresh, n[0], knows, befriended);
        return items;
    }

    private int number(int least, int most) throws Fault {
        if (next >= tokens.size()) {
            throw new Fault(text.length());
        }
        String t = tokens.get(next);
        if (!t.matches("0|[1-9][0-9]{0,2}") || Integer.parseInt(t) < least || Integer.parseInt(t) > most) {
            throw new Fault(places.get(next));
        }
        next++;
        return Integer.parseInt(t);
    }

    private void begin(State fresh, int n, List<int[]> knows, List<int[]> befriended) {
        persons = n;
        friends = sets(n);
        fresh.known = sets(n);
        for (int l = 0; l < fresh.codes.size(); l++) {
            fresh.shown.add(0);
            fresh.ring.add(l);
        }
        for (int[] k : knows) {
            fresh.known.get(k[0]).add(k[1]);
        }
        for (int[] f : befriended) {
            friends.get(f[0]).add(f[1]);
            friends.get(f[1]).add(f[0]);
        }
        s = fresh;
        heard.clear();
        images.clear();
        text.setLength(0);
    }

    private List<Integer> knowers(int l) {
        List<Integer> all = new ArrayList<>();
        for (int p = 0; p < persons; p++) {
            if (s.knows(p, l)) {
                all.add(p);
            }
        }
        return all;
    }

    private int lock(int l, int what) {
        if (noLock(l) || what < 0 || what > 5) {
            return BAD;
        }
        int at = s.ring.indexOf(l);
        int[] all = {s.codes.get(l), s.shown.get(l), bits(knowers(l)), at >= 0 ? 1 : 0,
            at < 0 ? NONE : s.ring.get((at + 1) % s.ring.size()), steps(s.shown.get(l), s.codes.get(l))};
        return all[what];
    }

    private int rounds(int p) {
        List<Integer> far = new ArrayList<>();
        for (int q = 0; q < persons; q++) {
            far.add(s.getsIn(q) ? 0 : 1000);
        }
        for (int again = 0; again < 10; again++) {
            for (int q = 0; q < persons; q++) {
                for (int f : friends.get(q)) {
                    far.set(f, Math.min(far.get(f), far.get(q) + 1));
                }
            }
        }
        return far.get(p) >= 1000 ? NONE : far.get(p);
    }

    private int person(int p, int what) {
        if (noPerson(p) || what < 0 || what > 3) {
            return BAD;
        }
        int[] all = {bits(s.known.get(p)), bits(friends.get(p)), s.getsIn(p) ? 1 : 0, rounds(p)};
        return all[what];
    }

    private int deed(String name, int a, int b, int c) {
        State before = s.copy(false);
        Deque<State> past = s.past;
        int answer = dare(name, a, b, c);
        if (answer >= 0) {
            past.addLast(before);
            if (past.size() > 10) {
                past.removeFirst();
            }
        }
        return answer;
    }

    private int dare(String name, int a, int b, int c) {
        switch (name) {
            case "opens":
                if (noPerson(a) || noLock(b)) { return BAD; }
                if (s.open != NONE || !s.ring.contains(b) || !s.knows(a, b)) { return STATE; }
                s.shown.set(b, s.codes.get(b));
                s.open = b;
                return s.ring.size();
            case "shuts":
                if (noLock(a) || noNumber(b)) { return BAD; }
                return shut(s, a, b);
            case "hangs":
                if (noPerson(a) || noLock(b)) { return BAD; }
                if (s.open == NONE || s.ring.contains(b) || !s.knows(a, b)) { return STATE; }
                s.ring.add(s.ring.indexOf(s.open) + 1, b);
                return s.ring.size();
            case "tells":
                if (noPerson(a) || noPerson(b) || a == b || noLock(c)) { return BAD; }
                if (!s.knows(a, c) || s.knows(b, c)) { return STATE; }
                s.known.get(b).add(c);
                return knowers(c).size();
            case "changes":
                if (noPerson(a) || noNumber(b)) { return BAD; }
                if (s.open == NONE || !s.knows(a, s.open)) { return STATE; }
                return change(a, b);
            default:
                if (noLock(a) || noNumber(b)) { return BAD; }
                if (s.open != NONE || !s.ring.contains(a)) { return STATE; }
                s.shown.set(a, b);
                if (s.codes.get(a) == b) { s.open = a; }
                return right(b, s.codes.get(a));
        }
    }

    private int change(int p, int code) {
        int others = knowers(s.open).size() - 1;
        for (int q = 0; q < persons; q++) {
            if (q != p) {
                s.known.get(q).remove(s.open);
            }
        }
        s.codes.set(s.open, code);
        s.shown.set(s.open, code);
        return others;
    }

    private static int shut(State t, int l, int shown) {
        if (t.open == NONE || !t.ring.contains(l) || l == t.open && t.ring.size() > 1) {
            return STATE;
        }
        int beside = 0;
        while (t.ring.size() > 1 && t.ring.get((t.ring.indexOf(t.open) + 1) % t.ring.size()) != l) {
            t.ring.remove((t.ring.indexOf(t.open) + 1) % t.ring.size());
            beside++;
        }
        t.shown.set(t.open, shown);
        t.open = NONE;
        return beside;
    }

    private int undo() {
        if (s.past.isEmpty()) {
            return STATE;
        }
        Deque<State> past = s.past;
        s = past.removeLast().copy(false);
        s.past = past;
        return past.size();
    }

    private int getIn() {
        int all = 0;
        for (int p = 0; p < persons; p++) {
            all |= s.getsIn(p) ? 1 << p : 0;
        }
        return all;
    }

    private int now(int what) {
        switch (what) {
            case 0: return s.open;
            case 1: return bits(s.ring);
            case 2: return getIn();
            case 3: {
                int worst = NONE;
                for (int l = s.codes.size() - 1; l >= 0; l--) {
                    if (left(l) != NONE
                            && (worst == NONE || Integer.bitCount(left(l)) >= Integer.bitCount(left(worst)))) {
                        worst = l;
                    }
                }
                return worst;
            }
            case 4: {
                int most = 0;
                for (int p = 0; p < persons; p++) {
                    if (rounds(p) == NONE) {
                        return NONE;
                    }
                    most = Math.max(most, rounds(p));
                }
                return most;
            }
            default: return BAD;
        }
    }

    private int left(int l) {
        State then = s.copy(false);
        if (shut(then, l, 0) < 0) {
            return NONE;
        }
        int all = 0;
        for (int p = 0; p < persons; p++) {
            all |= s.getsIn(p) && !then.getsIn(p) ? 1 << p : 0;
        }
        return all;
    }

    private int jam(int r) {
        if (r < 0 || r > 7) {
            return BAD;
        }
        for (int size = 1; size <= persons; size++) {
            for (int set = 0; set < 1 << persons; set++) {
                TreeSet<Integer> all = new TreeSet<>();
                for (int p = 0; p < persons; p++) {
                    if ((set & 1 << p) != 0) {
                        all.addAll(s.known.get(p));
                    }
                }
                all.retainAll(s.ring);
                if (Integer.bitCount(set) == size && all.size() > r) {
                    return set;
                }
            }
        }
        return NONE;
    }

    private int near(int l, int n) {
        if (noLock(l) || n < 0 || n > 15) {
            return BAD;
        }
        int all = 0;
        for (int i = 0; i < 1000; i++) {
            all += steps(i, s.shown.get(l)) <= n ? 1 : 0;
        }
        return all;
    }

    /** Goes through all who may have forgotten: the odds as a sum over the sets of persons. */
    private int odds(int x, int what) {
        if (x < 0 || x > 10 || what < 0 || what > 1) {
            return BAD;
        }
        long upper = 0;
        long lower = 1;
        for (int p = 0; p < persons; p++) {
            lower *= 10;
        }
        for (int forgot = 0; forgot < 1 << persons; forgot++) {
            long weight = 1;
            for (int p = 0; p < persons; p++) {
                weight *= (forgot & 1 << p) != 0 ? x : 10 - x;
            }
            upper += (getIn() & ~forgot) != 0 ? weight : 0;
        }
        long divisor = java.math.BigInteger.valueOf(upper).gcd(java.math.BigInteger.valueOf(lower)).longValue();
        return (int) ((what == 0 ? upper : lower) / divisor);
    }

    private int hears(int code, int r) {
        if (noNumber(code) || r < 0 || r > 3) {
            return BAD;
        }
        if (heard.size() == 4) {
            return FULL;
        }
        heard.add(new int[] {code, r});
        return heard.size();
    }

    private List<Integer> can() {
        List<Integer> all = new ArrayList<>();
        for (int i = 0; i < 1000; i++) {
            int code = i;
            if (heard.stream().allMatch(h -> right(h[0], code) == h[1])) {
                all.add(i);
            }
        }
        return all;
    }

    private int codes(int what) {
        if (what < 0 || what > 1) {
            return BAD;
        }
        List<Integer> all = can();
        return what == 0 ? all.size() : all.isEmpty() ? NONE : all.get(0);
    }

    private int ask() {
        List<Integer> all = can();
        if (all.size() < 2 || all.size() > 250) {
            return NONE;
        }
        int best = NONE;
        int least = 1001;
        for (int q = 0; q < 1000; q++) {
            int[] parts = new int[4];
            for (int code : all) {
                parts[right(code, q)]++;
            }
            int greatest = Arrays.stream(parts).max().getAsInt();
            if (greatest < least) {
                least = greatest;
                best = q;
            }
        }
        return best;
    }

    private int mark(int kind, int l) {
        int[] above = {-1, 0, 0, 1, 2, 0};
        int[] traces = {1, 10, 100, 1000, 10000, 100000};
        trace += traces[kind];
        int up = kind == 0 ? 0 : mark(above[kind], l);
        int[] all = {knowers(l).size(), up + lock(l, 5), up - s.ring.size(), up * 2, up + l, up + s.shown.get(l)};
        return all[kind];
    }

    private int keep(int image) {
        if (image < 0 || image > 1) {
            return BAD;
        }
        images.put(image, s.copy(true));
        return s.ring.size();
    }

    private int back(int image) {
        if (image < 0 || image > 1) {
            return BAD;
        }
        if (!images.containsKey(image)) {
            return STATE;
        }
        s = images.get(image).copy(true);
        return s.ring.size();
    }

    private int count(int what) {
        int[] all = {persons, s.codes.size(), heard.size(), s.past.size(), text.length()};
        return what < 0 || what > 4 ? BAD : all[what];
    }
}
