import java.util.Arrays;

/**
 * A chain of padlocks on one gate: who gets in by which lock, what is done at the locks and undone,
 * who is shut out by it, what an unknown code can be. Words in capitals are those of the document.
 */
public final class GateChain {
    public static final int BAD = -1, STATE = -2, FULL = -3, NONE = -9;
    public static final int NO = -1000000;

    private static final int MOST_PERSONS = 6;
    private static final int PERSONS_AT_FIRST = 3;
    private static final int MOST_LOCKS = 8;
    private static final int MOST_BYTES = 150;
    private static final int MOST_UNDONE = 10;
    private static final int MOST_HEARD = 4;
    private static final int MOST_ASKED = 250;
    private static final int IMAGES = 2;
    private static final int WHEELS = 3;
    private static final int FIGURES = 10;
    private static final int NUMBERS = 1000;
    private static final int FURTHEST = 15;
    private static final int FAULTS_FROM = -10;
    private static final int TENTHS = 10;
    private static final int MOST_DIVISIONS = 64;

    // How many figures of a wheel are 0, 1, .. 5 turns away from the one that it shows.
    private static final int[] FIGURES_AT = {1, 2, 2, 2, 2, 1};

    private final Text text;
    private final Now present;
    private final Now[] images;
    private final boolean[] imageKept;
    private final Rumour rumour;
    private Plan plan;
    private Plan draft;
    private long traced;

    public GateChain() {
        text = new Text();
        present = new Now();
        images = new Now[IMAGES];
        for (int image = 0; image < IMAGES; image++) {
            images[image] = new Now();
        }
        imageKept = new boolean[IMAGES];
        rumour = new Rumour();
        plan = new Plan();
        draft = new Plan();
        traced = 0;
    }

    // ---- the gate

    public int type(int c) {
        if (c < 0 || c > 255) {
            return BAD;
        }
        return text.append(c);
    }

    public int clear() {
        return text.empty();
    }

    public int gate() {
        int items = text.tellAll(draft);
        if (items < 0) {
            return items;
        }
        Plan older = plan;
        plan = draft;
        draft = older;
        text.empty();
        present.begin(plan);
        rumour.forgetAll();
        for (int image = 0; image < IMAGES; image++) {
            imageKept[image] = false;
        }
        return items;
    }

    public int lock(int l, int what) {
        if (!isLock(l)) {
            return BAD;
        }
        Scene scene = present.scene;
        switch (what) {
            case 0:
                return scene.code[l];
            case 1:
                return scene.shown[l];
            case 2:
                return scene.knowers[l];
            case 3:
                return scene.inRing(l) ? 1 : 0;
            case 4:
                return scene.behindOf(l);
            case 5:
                return scene.stepsOf(l);
            default:
                return BAD;
        }
    }

    public int person(int p, int what) {
        if (!isPerson(p)) {
            return BAD;
        }
        switch (what) {
            case 0:
                return present.scene.knownBy(1 << p);
            case 1:
                return plan.friends[p];
            case 2:
                return hasBit(present.scene.whoGetsIn(), p) ? 1 : 0;
            case 3:
                return roundsOf(p);
            default:
                return BAD;
        }
    }

    // ---- what is done

    public int opens(int p, int l) {
        if (!isPerson(p) || !isLock(l)) {
            return BAD;
        }
        Scene scene = present.scene;
        if (scene.isOpen() || !scene.inRing(l) || !scene.knows(p, l)) {
            return STATE;
        }
        present.remember();
        scene.shown[l] = scene.code[l];
        scene.openAt = l;
        return scene.ringSize();
    }

    public int shuts(int l, int shown) {
        if (!isLock(l) || !isNumber(shown)) {
            return BAD;
        }
        if (!present.scene.canShutOn(l)) {
            return STATE;
        }
        present.remember();
        return present.scene.shutOn(l, shown);
    }

    public int hangs(int p, int l) {
        if (!isPerson(p) || !isLock(l)) {
            return BAD;
        }
        Scene scene = present.scene;
        if (!scene.isOpen() || scene.inRing(l) || !scene.knows(p, l)) {
            return STATE;
        }
        present.remember();
        scene.hangIn(l);
        return scene.ringSize();
    }

    public int tells(int p, int q, int l) {
        if (!isPerson(p) || !isPerson(q) || p == q || !isLock(l)) {
            return BAD;
        }
        Scene scene = present.scene;
        if (!scene.knows(p, l) || scene.knows(q, l)) {
            return STATE;
        }
        present.remember();
        scene.knowers[l] |= 1 << q;
        return scene.knowerCount(l);
    }

    public int changes(int p, int code) {
        if (!isPerson(p) || !isNumber(code)) {
            return BAD;
        }
        Scene scene = present.scene;
        if (!scene.isOpen() || !scene.knows(p, scene.openAt)) {
            return STATE;
        }
        present.remember();
        return scene.giveCode(p, code);
    }

    public int tries(int l, int code) {
        if (!isLock(l) || !isNumber(code)) {
            return BAD;
        }
        Scene scene = present.scene;
        if (scene.isOpen() || !scene.inRing(l)) {
            return STATE;
        }
        present.remember();
        scene.shown[l] = code;
        int right = rightWheels(code, scene.code[l]);
        if (right == WHEELS) {
            scene.openAt = l;
        }
        return right;
    }

    public int undo() {
        if (present.undoable == 0) {
            return STATE;
        }
        present.takeBack();
        return present.undoable;
    }

    public int now(int what) {
        switch (what) {
            case 0:
                return present.scene.openAt;
            case 1:
                return present.scene.ringBits();
            case 2:
                return present.scene.whoGetsIn();
            case 3:
                return worstLock();
            case 4:
                return greatestRounds();
            default:
                return BAD;
        }
    }

    // ---- who gets in

    public int left(int l) {
        if (!isLock(l)) {
            return BAD;
        }
        return present.scene.leftBy(l);
    }

    public int jam(int r) {
        if (r < 0 || r >= MOST_LOCKS) {
            return BAD;
        }
        return fewestWhoKnowMore(r);
    }

    public int near(int l, int n) {
        if (!isLock(l) || n < 0 || n > FURTHEST) {
            return BAD;
        }
        return numbersWithin(n);
    }

    public int odds(int x, int what) {
        if (x < 0 || x > TENTHS || what < 0 || what > 1) {
            return BAD;
        }
        int lower = 1;
        int allForget = 1;
        int getIn = Integer.bitCount(present.scene.whoGetsIn());
        for (int person = 0; person < getIn; person++) {
            lower *= TENTHS;
            allForget *= x;
        }
        int upper = lower - allForget;
        int divisor = greatestDivisor(lower, upper);
        if (divisor == 0) {
            return BAD;
        }
        return what == 0 ? upper / divisor : lower / divisor;
    }

    // ---- what it can be

    public int hears(int code, int right) {
        if (!isNumber(code) || right < 0 || right > WHEELS) {
            return BAD;
        }
        if (rumour.heard >= MOST_HEARD) {
            return FULL;
        }
        rumour.add(code, right);
        return rumour.heard;
    }

    public int forget() {
        int before = rumour.heard;
        rumour.forgetAll();
        return before;
    }

    public int codes(int what) {
        switch (what) {
            case 0:
                return rumour.possibleCount;
            case 1:
                return rumour.possibleCount == 0 ? NONE : rumour.possible[0];
            default:
                return BAD;
        }
    }

    public int ask() {
        if (rumour.possibleCount < 2 || rumour.possibleCount > MOST_ASKED) {
            return NONE;
        }
        return rumour.bestQuestion();
    }

    // ---- kinds, images

    public int mark(int kind, int l) {
        if (!isLock(l)) {
            return NO;
        }
        switch (kind) {
            case 0:
                return markOfLock(l);
            case 1:
                return markOfBrass(l);
            case 2:
                return markOfRusty(l);
            case 3:
                return markOfDouble(l);
            case 4:
                return markOfSeized(l);
            case 5:
                return markOfPainted(l);
            default:
                return NO;
        }
    }

    public int keep(int image) {
        if (!isImage(image)) {
            return BAD;
        }
        images[image].copyFrom(present);
        imageKept[image] = true;
        return present.scene.ringSize();
    }

    public int back(int image) {
        if (!isImage(image)) {
            return BAD;
        }
        if (!imageKept[image]) {
            return STATE;
        }
        present.copyFrom(images[image]);
        return present.scene.ringSize();
    }

    public int count(int what) {
        switch (what) {
            case 0:
                return plan.persons;
            case 1:
                return plan.locks;
            case 2:
                return rumour.heard;
            case 3:
                return present.undoable;
            case 4:
                return text.length;
            default:
                return BAD;
        }
    }

    public long trace() {
        return traced;
    }

    // ---- what there is

    private boolean isPerson(int p) {
        return p >= 0 && p < plan.persons;
    }

    private boolean isLock(int l) {
        return l >= 0 && l < plan.locks;
    }

    private static boolean isNumber(int number) {
        return number >= 0 && number < NUMBERS;
    }

    private static boolean isImage(int image) {
        return image >= 0 && image < IMAGES;
    }

    private static boolean hasBit(int bits, int place) {
        return (bits >> place & 1) == 1;
    }

    // ---- rounds, the worst shutting, jammed locks

    private int roundsOf(int p) {
        int in = present.scene.whoGetsIn();
        for (int round = 0; round < MOST_PERSONS; round++) {
            if (hasBit(in, p)) {
                return round;
            }
            in |= friendsOfAny(in);
        }
        return NONE;
    }

    private int friendsOfAny(int persons) {
        int bits = 0;
        for (int p = 0; p < plan.persons; p++) {
            if (hasBit(persons, p)) {
                bits |= plan.friends[p];
            }
        }
        return bits;
    }

    private int greatestRounds() {
        int greatest = 0;
        for (int p = 0; p < plan.persons; p++) {
            int rounds = roundsOf(p);
            if (rounds == NONE) {
                return NONE;
            }
            greatest = Math.max(greatest, rounds);
        }
        return greatest;
    }

    private int worstLock() {
        int worst = NONE;
        int most = -1;
        for (int l = 0; l < plan.locks; l++) {
            if (present.scene.canShutOn(l)) {
                int shutOut = Integer.bitCount(present.scene.leftBy(l));
                if (shutOut > most) {
                    most = shutOut;
                    worst = l;
                }
            }
        }
        return worst;
    }

    private int fewestWhoKnowMore(int jammed) {
        int best = NONE;
        int fewest = MOST_PERSONS + 1;
        int ring = present.scene.ringBits();
        for (int persons = 1; persons < 1 << plan.persons; persons++) {
            int size = Integer.bitCount(persons);
            if (size < fewest && Integer.bitCount(present.scene.knownBy(persons) & ring) > jammed) {
                fewest = size;
                best = persons;
            }
        }
        return best;
    }

    // ---- wheels

    private static int rightWheels(int one, int other) {
        int right = one % 10 == other % 10 ? 1 : 0;
        right += one / 10 % 10 == other / 10 % 10 ? 1 : 0;
        right += one / 100 == other / 100 ? 1 : 0;
        return right;
    }

    private static int stepsBetween(int one, int other) {
        return turns(one % 10, other % 10)
                + turns(one / 10 % 10, other / 10 % 10)
                + turns(one / 100, other / 100);
    }

    private static int turns(int figure, int other) {
        int up = Math.abs(figure - other);
        return Math.min(up, FIGURES - up);
    }

    // 9 and 0 are side by side, so the count is the same whatever the wheels show.
    private static int numbersWithin(int steps) {
        int numbers = 0;
        for (int a = 0; a < FIGURES_AT.length; a++) {
            for (int b = 0; b < FIGURES_AT.length; b++) {
                for (int c = 0; c < FIGURES_AT.length; c++) {
                    if (a + b + c <= steps) {
                        numbers += FIGURES_AT[a] * FIGURES_AT[b] * FIGURES_AT[c];
                    }
                }
            }
        }
        return numbers;
    }

    private static int greatestDivisor(int one, int other) {
        int large = one;
        int small = other;
        for (int turn = 0; turn < MOST_DIVISIONS && small != 0; turn++) {
            int rest = large % small;
            large = small;
            small = rest;
        }
        return large;
    }

    // ---- the bodies of the kinds

    private int markOfLock(int l) {
        traced += 1;
        return present.scene.knowerCount(l);
    }

    private int markOfBrass(int l) {
        traced += 10;
        return markOfLock(l) + present.scene.stepsOf(l);
    }

    private int markOfRusty(int l) {
        traced += 100;
        return markOfLock(l) - present.scene.ringSize();
    }

    private int markOfDouble(int l) {
        traced += 1000;
        return markOfBrass(l) * 2;
    }

    private int markOfSeized(int l) {
        traced += 10000;
        return markOfRusty(l) + l;
    }

    private int markOfPainted(int l) {
        traced += 100000;
        return markOfLock(l) + present.scene.shown[l];
    }

    /** What a text tells: persons, their friends, locks and who knows them at first. */
    private static final class Plan {
        final int[] code = new int[MOST_LOCKS];
        final int[] knowers = new int[MOST_LOCKS];
        final int[] friends = new int[MOST_PERSONS];
        int persons = PERSONS_AT_FIRST;
        int locks = 0;

        void reset() {
            Arrays.fill(code, 0);
            Arrays.fill(knowers, 0);
            Arrays.fill(friends, 0);
            persons = PERSONS_AT_FIRST;
            locks = 0;
        }

        void addLock(int itsCode) {
            if (locks < MOST_LOCKS) {
                code[locks] = itsCode;
                locks++;
            }
        }

        void befriend(int a, int b) {
            friends[a] |= 1 << b;
            friends[b] |= 1 << a;
        }
    }

    /** THE TEXT, and how it is read: token by token, each looked at before the next is taken. */
    private static final class Text {
        private static final int END = 0, LETTERS = 1, FIGURE_ROW = 2, SEMICOLON = 3, WRONG = 4;

        final int[] bytes = new int[MOST_BYTES];
        int length = 0;
        int at = 0;
        int token = END;
        int place = 0;
        int value = 0;

        int append(int c) {
            if (length >= MOST_BYTES) {
                return FULL;
            }
            bytes[length] = c;
            length++;
            return length;
        }

        int empty() {
            int before = length;
            length = 0;
            return before;
        }

        int tellAll(Plan plan) {
            plan.reset();
            at = 0;
            advance();
            int items = 0;
            while (token != END && items < MOST_BYTES) {
                if (!readItem(plan, items)) {
                    return FAULTS_FROM - place;
                }
                items++;
                advance();
            }
            return items;
        }

        // Where a reading answers false, place is that of the token that can't stand there.
        boolean readItem(Plan plan, int itemsAhead) {
            if (token != LETTERS) {
                return false;
            }
            switch (value) {
                case 'n':
                    return itemsAhead == 0 && readPersons(plan);
                case 'l':
                    return plan.locks < MOST_LOCKS && readLock(plan);
                case 'k':
                    return readKnows(plan);
                case 'f':
                    return readFriends(plan);
                default:
                    return false;
            }
        }

        boolean readPersons(Plan plan) {
            if (!readNumber(1, MOST_PERSONS)) {
                return false;
            }
            plan.persons = value;
            return readEnd();
        }

        boolean readLock(Plan plan) {
            if (!readNumber(0, NUMBERS - 1)) {
                return false;
            }
            plan.addLock(value);
            return readEnd();
        }

        boolean readKnows(Plan plan) {
            if (!readNumber(0, plan.persons - 1)) {
                return false;
            }
            int p = value;
            if (!readNumber(0, plan.locks - 1)) {
                return false;
            }
            plan.knowers[value] |= 1 << p;
            return readEnd();
        }

        boolean readFriends(Plan plan) {
            if (!readNumber(0, plan.persons - 1)) {
                return false;
            }
            int a = value;
            if (!readNumber(0, plan.persons - 1) || value == a) {
                return false;
            }
            plan.befriend(a, value);
            return readEnd();
        }

        boolean readNumber(int least, int most) {
            advance();
            return token == FIGURE_ROW && value >= least && value <= most;
        }

        boolean readEnd() {
            advance();
            return token == SEMICOLON;
        }

        void advance() {
            while (at < length && bytes[at] == ' ') {
                at++;
            }
            place = at;
            value = 0;
            if (at >= length) {
                token = END;
            } else if (bytes[at] >= 'a' && bytes[at] <= 'z') {
                takeLetters();
            } else if (bytes[at] >= '0' && bytes[at] <= '9') {
                takeNumber();
            } else if (bytes[at] == ';') {
                token = SEMICOLON;
                at++;
            } else {
                token = WRONG;
            }
        }

        // Only one letter alone begins an item, so longer rows need no value of their own.
        void takeLetters() {
            token = LETTERS;
            int first = bytes[at];
            while (at < length && bytes[at] >= 'a' && bytes[at] <= 'z') {
                at++;
            }
            value = at - place == 1 ? first : 0;
        }

        void takeNumber() {
            boolean zeroAhead = bytes[at] == '0';
            while (at < length && bytes[at] >= '0' && bytes[at] <= '9') {
                value = Math.min(value * 10 + bytes[at] - '0', NUMBERS);
                at++;
            }
            boolean right = value < NUMBERS && !(zeroAhead && at - place > 1);
            token = right ? FIGURE_ROW : WRONG;
        }
    }

    /** The locks as they hang and show, and who knows them: all that a deed changes. */
    private static final class Scene {
        final int[] code = new int[MOST_LOCKS];
        final int[] shown = new int[MOST_LOCKS];
        final int[] knowers = new int[MOST_LOCKS];
        // The next lock in the ring, NONE for one that is not of the ring.
        final int[] behind = new int[MOST_LOCKS];
        int openAt = NONE;

        Scene() {
            Arrays.fill(behind, NONE);
        }

        void begin(Plan plan) {
            for (int l = 0; l < MOST_LOCKS; l++) {
                code[l] = plan.code[l];
                shown[l] = 0;
                knowers[l] = plan.knowers[l];
                behind[l] = l < plan.locks ? l + 1 : NONE;
            }
            if (plan.locks > 0) {
                behind[plan.locks - 1] = 0;
            }
            openAt = NONE;
        }

        void copyFrom(Scene other) {
            System.arraycopy(other.code, 0, code, 0, MOST_LOCKS);
            System.arraycopy(other.shown, 0, shown, 0, MOST_LOCKS);
            System.arraycopy(other.knowers, 0, knowers, 0, MOST_LOCKS);
            System.arraycopy(other.behind, 0, behind, 0, MOST_LOCKS);
            openAt = other.openAt;
        }

        // Looked at as a range, since openAt is an index behind it.
        boolean isOpen() {
            return openAt >= 0 && openAt < MOST_LOCKS;
        }

        int behindOf(int l) {
            return l >= 0 && l < MOST_LOCKS ? behind[l] : NONE;
        }

        boolean inRing(int l) {
            return behindOf(l) != NONE;
        }

        int ringBits() {
            int bits = 0;
            for (int l = 0; l < MOST_LOCKS; l++) {
                if (inRing(l)) {
                    bits |= 1 << l;
                }
            }
            return bits;
        }

        int ringSize() {
            return Integer.bitCount(ringBits());
        }

        boolean knows(int p, int l) {
            return hasBit(knowers[l], p);
        }

        int knowerCount(int l) {
            return Integer.bitCount(knowers[l]);
        }

        int stepsOf(int l) {
            return stepsBetween(shown[l], code[l]);
        }

        int knownBy(int persons) {
            int bits = 0;
            for (int l = 0; l < MOST_LOCKS; l++) {
                if ((knowers[l] & persons) != 0) {
                    bits |= 1 << l;
                }
            }
            return bits;
        }

        int whoKnowsAny(int locks) {
            int bits = 0;
            for (int l = 0; l < MOST_LOCKS; l++) {
                if (hasBit(locks, l)) {
                    bits |= knowers[l];
                }
            }
            return bits;
        }

        int whoGetsIn() {
            return whoKnowsAny(ringBits());
        }

        boolean canShutOn(int l) {
            boolean alone = behindOf(l) == l;
            return isOpen() && inRing(l) && (l != openAt || alone);
        }

        int between(int l) {
            int bits = 0;
            int at = behindOf(openAt);
            for (int turn = 0; turn < MOST_LOCKS && at != l && at != NONE; turn++) {
                bits |= 1 << at;
                at = behindOf(at);
            }
            return bits;
        }

        int leftBy(int l) {
            if (!canShutOn(l)) {
                return NONE;
            }
            return whoGetsIn() & ~whoKnowsAny(ringBits() & ~between(l));
        }

        int shutOn(int l, int number) {
            int beside = between(l);
            for (int k = 0; k < MOST_LOCKS; k++) {
                if (hasBit(beside, k)) {
                    behind[k] = NONE;
                }
            }
            behind[openAt] = l;
            shown[openAt] = number;
            openAt = NONE;
            return Integer.bitCount(beside);
        }

        void hangIn(int l) {
            behind[l] = behind[openAt];
            behind[openAt] = l;
        }

        int giveCode(int p, int number) {
            int others = Integer.bitCount(knowers[openAt] & ~(1 << p));
            code[openAt] = number;
            shown[openAt] = number;
            knowers[openAt] = 1 << p;
            return others;
        }
    }

    /** The scene with those ahead of the latest deeds: what an image keeps. */
    private static final class Now {
        final Scene scene = new Scene();
        final Scene[] earlier = new Scene[MOST_UNDONE];
        int undoable = 0;

        Now() {
            for (int i = 0; i < MOST_UNDONE; i++) {
                earlier[i] = new Scene();
            }
        }

        void begin(Plan plan) {
            scene.begin(plan);
            undoable = 0;
        }

        void copyFrom(Now other) {
            scene.copyFrom(other.scene);
            undoable = other.undoable;
            for (int i = 0; i < undoable && i < MOST_UNDONE; i++) {
                earlier[i].copyFrom(other.earlier[i]);
            }
        }

        void remember() {
            if (undoable >= MOST_UNDONE) {
                loseOldest();
            }
            earlier[undoable].copyFrom(scene);
            undoable++;
        }

        // The oldest scene's object goes to the end, to be written over: none is made anew.
        void loseOldest() {
            Scene oldest = earlier[0];
            for (int i = 1; i < MOST_UNDONE; i++) {
                earlier[i - 1] = earlier[i];
            }
            earlier[MOST_UNDONE - 1] = oldest;
            undoable = MOST_UNDONE - 1;
        }

        void takeBack() {
            if (undoable > 0) {
                undoable--;
                scene.copyFrom(earlier[undoable]);
            }
        }
    }

    /** What was HEARD of an unknown code, and the numbers that it can be, in rising order. */
    private static final class Rumour {
        final int[] possible = new int[NUMBERS];
        int possibleCount = 0;
        int heard = 0;
        // How many possible numbers have a figure, or two of them, at these wheels (100s, 10s, 1s).
        final int[] withHundred = new int[FIGURES];
        final int[] withTen = new int[FIGURES];
        final int[] withOne = new int[FIGURES];
        final int[] withHundredTen = new int[FIGURES * FIGURES];
        final int[] withHundredOne = new int[FIGURES * FIGURES];
        final int[] withTenOne = new int[FIGURES * FIGURES];

        Rumour() {
            forgetAll();
        }

        void forgetAll() {
            for (int number = 0; number < NUMBERS; number++) {
                possible[number] = number;
            }
            possibleCount = NUMBERS;
            heard = 0;
        }

        void add(int number, int right) {
            int fitting = 0;
            for (int i = 0; i < possibleCount && i < NUMBERS; i++) {
                if (rightWheels(possible[i], number) == right) {
                    possible[fitting] = possible[i];
                    fitting++;
                }
            }
            possibleCount = fitting;
            heard++;
        }

        int bestQuestion() {
            countFigures();
            int best = NONE;
            int least = NUMBERS + 1;
            int next = 0;
            for (int number = 0; number < NUMBERS; number++) {
                boolean isPossible = next < possibleCount && possible[next] == number;
                if (isPossible) {
                    next++;
                }
                int part = greatestPart(number, isPossible ? 1 : 0);
                if (part < least) {
                    least = part;
                    best = number;
                }
            }
            return best;
        }

        void countFigures() {
            Arrays.fill(withHundred, 0);
            Arrays.fill(withTen, 0);
            Arrays.fill(withOne, 0);
            Arrays.fill(withHundredTen, 0);
            Arrays.fill(withHundredOne, 0);
            Arrays.fill(withTenOne, 0);
            for (int i = 0; i < possibleCount && i < NUMBERS; i++) {
                int hundred = possible[i] / 100;
                int ten = possible[i] / 10 % 10;
                int one = possible[i] % 10;
                withHundred[hundred]++;
                withTen[ten]++;
                withOne[one]++;
                withHundredTen[hundred * FIGURES + ten]++;
                withHundredOne[hundred * FIGURES + one]++;
                withTenOne[ten * FIGURES + one]++;
            }
        }

        // A number right at two wheels is counted at each of them, one right at three in each pair
        // too: so the exact counts come of the sums, without going through all that is possible.
        int greatestPart(int number, int allRight) {
            int hundred = number / 100;
            int ten = number / 10 % 10;
            int one = number % 10;
            int pairs = withHundredTen[hundred * FIGURES + ten]
                    + withHundredOne[hundred * FIGURES + one]
                    + withTenOne[ten * FIGURES + one];
            int singles = withHundred[hundred] + withTen[ten] + withOne[one];
            int twoRight = pairs - 3 * allRight;
            int oneRight = singles - 2 * twoRight - 3 * allRight;
            int noneRight = possibleCount - oneRight - twoRight - allRight;
            return Math.max(Math.max(noneRight, oneRight), Math.max(twoRight, allRight));
        }
    }
}
