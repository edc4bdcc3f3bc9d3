import java.util.Arrays;

/**
 * Two elbows and one rest: a row of seats with rests between them, and who holds how much of them.
 * ../shared/DOC.md says what every call answers; words in capitals there are the words used here.
 */
public final class TwoElbows {
    public static final int BAD = -1, NOT = -2, FULL = -3, STATE = -5, VOID = -2000000000;

    private static final int MISSING = -11, UNLIKE = -12, NO_PLACE = -13, NO_SIZE = -14;
    private static final int SEATS = 8, RESTS = 7, HOURS = 24, WIDEST = 9, SEEDS = 100, SHELVES = 6;
    private static final int AWAKE = 0, ASLEEP = 1, UP = 2, DRINKS = 3;
    private static final int SIZE = 0, PUSH = 1, PRIDE = 2, ASK = 3, OFFER = 4, TRAITS = 5;
    private static final int NOBODY = -1;

    private final Sitters people = new Sitters();
    private final Law inForce = new Law();
    private final Law draft = new Law();
    private final Tape tape = new Tape();
    private final Course deed = new Course(people, inForce);
    private final Course thought = new Course(people, inForce);
    private final Course kept = new Course(people, inForce);
    private final Past past = new Past();
    private final Changes changes = new Changes();
    private final Holdings holdings = new Holdings();
    private final Shelf[] shelves = new Shelf[SHELVES];
    private boolean hasImage = false;

    public TwoElbows() {
        for (int shelf = 0; shelf < SHELVES; shelf++) shelves[shelf] = new Shelf();
    }

    // ---- sitters, rests, hours

    public int sitter(int spr) {
        if (spr < 0 || spr > 999) return BAD;
        if (deed.now != 0) return STATE;
        return people.add(spr / 100, spr / 10 % 10, spr % 10);
    }

    public int sitters(int shelf, int i, int n) {
        if (!isShelf(shelf) || n < 1 || n > SEATS) return BAD;
        Shelf from = shelves[shelf];
        if (from.sort != Shelf.NOTHING && from.sort != Shelf.BYTES) return UNLIKE;
        if (deed.now != 0) return STATE;
        // A place that is not there, below 0 too, is no refusal: the row ends there, and none come.
        int came = 0;
        while (came < n && comesFrom(from, i + 3 * came)) came++;
        return came;
    }

    public int wide(int rest, int v) {
        if (rest < 0 || rest >= RESTS || v < 0 || v > WIDEST) return BAD;
        int before = deed.wide[rest];
        deed.fit(rest, v);
        return before;
    }

    public int hours(int sitter, int ft, int how) {
        int from = ft / 100;
        int to = ft % 100;
        if (!people.has(sitter) || ft < 0 || to < from || to >= HOURS) return BAD;
        if (how < AWAKE || how > DRINKS) return BAD;
        if (from < deed.now) return STATE;
        for (int hour = from; hour <= to; hour++) people.tell(sitter, hour, how);
        return to - from + 1;
    }

    public int mend(int sitter, int what, int v) {
        if (!people.has(sitter) || what < SIZE || what > OFFER) return BAD;
        if (v < 0 || v > (what < ASK ? 9 : 99)) return BAD;
        int before = people.trait(sitter, what);
        if (v != before) {
            people.become(sitter, what, v);
            changes.add(sitter, what, before, v);
        }
        return before;
    }

    public int of(int sitter, int what) {
        if (!people.has(sitter)) return VOID;
        if (what >= SIZE && what <= OFFER) return people.trait(sitter, what);
        if (what >= 100 && what < 100 + HOURS) return people.how(sitter, what - 100);
        switch (what) {
            case 5: return deed.inchesOf(sitter);
            case 6: return deed.comfort[sitter];
            case 7: return deed.yields[sitter];
            default: return VOID;
        }
    }

    public int feed(int letter) {
        if (letter < 0 || letter > 255) return BAD;
        return tape.add(letter);
    }

    public int law() {
        int fault = tape.readInto(draft);
        tape.clear();
        if (fault >= 0) return -100 - fault;
        inForce.become(draft);
        return 1;
    }

    public int rest(int rest, int what) {
        if (rest < 0 || rest >= RESTS) return BAD;
        if (what == 4) return deed.wide[rest];
        if (!people.hasRest(rest)) return BAD;
        switch (what) {
            case 0: return deed.wide[rest];
            case 1: return deed.left[rest];
            case 2: return deed.right[rest];
            case 3: return deed.free(rest);
            default: return BAD;
        }
    }

    public int strength(int sitter, int rest, int cough) {
        if (!people.has(sitter) || !people.hasRest(rest)) return BAD;
        if (rest != sitter && rest != sitter - 1) return BAD;
        if (cough < 0 || cough > 99 || deed.now >= HOURS) return BAD;
        if (!people.isThere(sitter, deed.now)) return BAD;
        return deed.strengthAt(sitter, rest, cough);
    }

    // ---- hours that go

    public int go(int seed, int n) {
        if (n < 1 || n > HOURS) return BAD;
        if (n > HOURS - deed.now) return STATE;
        int before = deed.fights;
        deed.draw = seed;
        for (int k = 0; k < n; k++) {
            deed.passHours(1);
            past.write(deed);
        }
        return deed.fights - before;
    }

    public int led(int hr, int what) {
        if (hr < 0 || hr / 10 >= deed.now || !people.hasRest(hr % 10)) return BAD;
        switch (what) {
            case 0: return past.leftOf(hr / 10, hr % 10);
            case 1: return past.rightOf(hr / 10, hr % 10);
            case 2: return past.fightOf(hr / 10, hr % 10);
            default: return BAD;
        }
    }

    public int judge(int shelf, int rest) {
        if (!isShelf(shelf) || !people.hasRest(rest)) return BAD;
        Shelf told = shelves[shelf];
        if (told.sort == Shelf.NOTHING) return MISSING;
        if (told.sort != Shelf.BYTES) return UNLIKE;
        for (int hour = 0; hour < deed.now; hour++) {
            if (isToldElse(told, 2 * hour, past.leftOf(hour, rest))) return hour;
            if (isToldElse(told, 2 * hour + 1, past.rightOf(hour, rest))) return hour;
        }
        return NOT;
    }

    public int match() {
        if (deed.now == 0) return STATE;
        // Where no cough is asked for, every seed goes as seed 0 does.
        int seeds = inForce.hearsCoughs() ? SEEDS : 1;
        for (int seed = 0; seed < seeds; seed++) {
            if (wentSo(seed)) return seed;
        }
        return NOT;
    }

    // ---- in thought

    public int then(int seed, int k, int sitter, int what) {
        boolean ofFights = sitter == NOBODY && what == 0;
        boolean ofSitter = people.has(sitter) && (what == 0 || what == 1);
        if (k < 0 || k > HOURS || !ofFights && !ofSitter) return VOID;
        if (k > HOURS - deed.now) return STATE;
        thought.begin(deed, seed);
        thought.passHours(k);
        if (ofFights) return thought.fights;
        return what == 0 ? thought.inchesOf(sitter) : thought.comfort[sitter];
    }

    public int quiet(int seed) {
        thought.begin(deed, seed);
        thought.passHours(HOURS - deed.now);
        boolean movedInTheLast = deed.now < HOURS && thought.quietFrom == HOURS;
        return movedInTheLast ? NOT : thought.quietFrom;
    }

    public int seat(int seed, int sitter) {
        if (!people.has(sitter)) return BAD;
        int best = sitter;
        thinkOfChange(seed, sitter, sitter);
        int most = thought.comfort[sitter];
        for (int to = 0; to < people.number(); to++) {
            thinkOfChange(seed, sitter, to);
            if (thought.comfort[sitter] > most) {
                most = thought.comfort[sitter];
                best = to;
            }
        }
        return best;
    }

    public int change(int seed) {
        int best = NOT;
        thinkOfChange(seed, 0, 0);
        int most = thought.comfortOfAll();
        for (int a = 0; a < people.number(); a++) {
            for (int b = a + 1; b < people.number(); b++) {
                thinkOfChange(seed, a, b);
                if (thought.comfortOfAll() > most) {
                    most = thought.comfortOfAll();
                    best = 10 * a + b;
                }
            }
        }
        return best;
    }

    public int wider(int seed, int rest) {
        if (!people.hasRest(rest)) return BAD;
        for (int v = 0; v <= WIDEST; v++) {
            if (isPeaceful(seed, rest, v)) return v;
        }
        return NOT;
    }

    public int both(int rest, int what) {
        if (!people.hasRest(rest) || what < 0 || what > 1) return BAD;
        int best = 0;
        for (int l = 1; l <= deed.wide[rest]; l++) {
            if (isBetterForBoth(rest, l, best)) best = l;
        }
        return what == 0 ? best : usedByLeft(rest, best) + usedByRight(rest, best);
    }

    public int deals(int rest, int what) {
        if (!people.hasRest(rest) || what < 0 || what > 2) return VOID;
        int sold = soldByLeft(rest);
        int seller = sold > 0 ? rest : rest + 1;
        int buyer = sold > 0 ? rest + 1 : rest;
        int ask = people.trait(seller, ASK);
        int offer = people.trait(buyer, OFFER);
        switch (what) {
            case 0: return Math.abs(sold) * (offer - ask);
            case 1: return Math.abs(sold);
            default: return sold * ((offer + ask) / 2);
        }
    }

    public int sell(int rest) {
        if (!people.hasRest(rest)) return BAD;
        int sold = soldByLeft(rest);
        deed.left[rest] -= sold;
        deed.right[rest] += sold;
        return Math.abs(sold);
    }

    public int image() {
        kept.becomeAs(deed);
        hasImage = true;
        return deed.now;
    }

    public int back() {
        if (!hasImage) return STATE;
        // What LED tells of hours ahead of the image cannot have changed since: only hours behind it go.
        deed.becomeAs(kept);
        for (int rest = 0; rest < RESTS; rest++) deed.fit(rest, deed.wide[rest]);
        return deed.now;
    }

    public int undo() {
        return changes.takeBack(people);
    }

    public int redo() {
        return changes.makeAgain(people);
    }

    // ---- acts, shelves

    public int body(int kind) {
        if (!Holdings.isKind(kind)) return BAD;
        return holdings.add(kind);
    }

    public int act(int body, int act, int x) {
        return holdings.run(body, act, x);
    }

    public int trace(int i) {
        return holdings.ranAs(i);
    }

    public int keep(int shelf, int body) {
        if (!isShelf(shelf) || body != NOBODY && !holdings.has(body)) return BAD;
        if (body == NOBODY) shelves[shelf].clear();
        else shelves[shelf].hold(body);
        return 1;
    }

    public int row(int shelf, int sort, int n) {
        if (!isShelf(shelf) || sort < Shelf.BYTES || sort > Shelf.BOOLEANS || n > Shelf.LONGEST) return BAD;
        if (n < 0) return NO_SIZE;
        shelves[shelf].layRow(sort, n);
        return 1;
    }

    public int put(int shelf, int i, long v) {
        int refusal = refusalAt(shelf, i);
        if (refusal != 0) return refusal;
        shelves[shelf].lay(i, v);
        return 1;
    }

    public long element(int shelf, int i) {
        if (refusalAt(shelf, i) != 0) return Long.MIN_VALUE;
        return shelves[shelf].at(i);
    }

    public int shift(int shelf, int i, int other, int j, int n) {
        if (!isShelf(shelf) || !isShelf(other)) return BAD;
        Shelf from = shelves[shelf];
        Shelf to = shelves[other];
        if (from.sort == Shelf.NOTHING || to.sort == Shelf.NOTHING) return MISSING;
        if (!from.isRow() || from.sort != to.sort) return UNLIKE;
        if (!from.hasPlaces(i, n) || !to.hasPlaces(j, n)) return NO_PLACE;
        System.arraycopy(from.elements, i, to.elements, j, n);
        return n;
    }

    public int taken(int shelf, int k) {
        if (!isShelf(shelf) || !Holdings.isKind(k)) return BAD;
        Shelf held = shelves[shelf];
        if (held.sort == Shelf.NOTHING) return MISSING;
        if (held.isRow() || !holdings.isUnder(held.body, k)) return UNLIKE;
        return holdings.kindOf(held.body);
    }

    public int count(int what) {
        switch (what) {
            case 0: return people.number();
            case 1: return people.rests();
            case 2: return deed.now;
            case 3: return deed.fights;
            case 4: return tape.length();
            case 5: return changes.undoable();
            case 6: return holdings.number();
            case 7: return holdings.ran();
            default: return BAD;
        }
    }

    // ---- what the calls share

    private static boolean isShelf(int shelf) {
        return shelf >= 0 && shelf < SHELVES;
    }

    /** Why there is no element i on a SHELF; 0 if there is one. */
    private int refusalAt(int shelf, int i) {
        if (!isShelf(shelf)) return BAD;
        Shelf held = shelves[shelf];
        if (held.sort == Shelf.NOTHING) return MISSING;
        if (!held.isRow()) return UNLIKE;
        return held.hasPlace(i) ? 0 : NO_PLACE;
    }

    /** Whether a ROW tells other inches at a place; behind its end it tells nothing. */
    private static boolean isToldElse(Shelf told, int place, int inches) {
        return told.hasPlace(place) && told.at(place) != inches;
    }

    /** Whether a SITTER came from the three elements from place on. */
    private boolean comesFrom(Shelf from, int place) {
        if (!from.hasPlaces(place, 3)) return false;
        long size = from.at(place);
        long push = from.at(place + 1);
        long pride = from.at(place + 2);
        if (!isDigit(size) || !isDigit(push) || !isDigit(pride)) return false;
        return people.add((int) size, (int) push, (int) pride) != FULL;
    }

    private static boolean isDigit(long value) {
        return value >= 0 && value <= 9;
    }

    /** Whether by this seed all HOURS so far would have been as they were. */
    private boolean wentSo(int seed) {
        thought.beginAnew(deed, seed);
        for (int hour = 0; hour < deed.now; hour++) {
            thought.passHours(1);
            if (!past.isAs(thought, people.rests())) return false;
        }
        return true;
    }

    private void thinkOfChange(int seed, int a, int b) {
        thought.begin(deed, seed);
        thought.changeSeats(a, b);
        thought.passHours(HOURS - deed.now);
    }

    private boolean isPeaceful(int seed, int rest, int v) {
        thought.begin(deed, seed);
        thought.fit(rest, v);
        for (int hour = deed.now; hour < HOURS; hour++) {
            thought.passHours(1);
            if (thought.fight[rest] != 0) return false;
        }
        return true;
    }

    private int usedByLeft(int rest, int l) {
        return Math.min(l, people.trait(rest, SIZE));
    }

    private int usedByRight(int rest, int l) {
        return Math.min(deed.wide[rest] - l, people.trait(rest + 1, SIZE));
    }

    private boolean isBetterForBoth(int rest, int l, int than) {
        int left = usedByLeft(rest, l);
        int right = usedByRight(rest, l);
        int otherLeft = usedByLeft(rest, than);
        int otherRight = usedByRight(rest, than);
        if (left + right != otherLeft + otherRight) return left + right > otherLeft + otherRight;
        return Math.min(left, right) > Math.min(otherLeft, otherRight);
    }

    /** How many inches the LEFT one sells; below 0: the RIGHT one sells. */
    private int soldByLeft(int rest) {
        int byLeft = inchesSold(rest, deed.left[rest], rest + 1, deed.right[rest]);
        if (byLeft > 0) return byLeft;
        return -inchesSold(rest + 1, deed.right[rest], rest, deed.left[rest]);
    }

    private int inchesSold(int seller, int held, int buyer, int had) {
        if (people.trait(buyer, OFFER) <= people.trait(seller, ASK)) return 0;
        int usable = people.trait(buyer, SIZE) - had;
        return Math.max(0, Math.min(held, usable));
    }

    /** The SITTERS: what they are, and how they are by HOURS. */
    private static final class Sitters {
        private final int[] traits = new int[SEATS * TRAITS];
        private final int[] ways = new int[SEATS * HOURS];
        private int number = 0;

        int number() {
            return number;
        }

        int rests() {
            return number > 0 ? number - 1 : 0;
        }

        boolean has(int sitter) {
            return sitter >= 0 && sitter < number;
        }

        boolean hasRest(int rest) {
            return rest >= 0 && rest < number - 1;
        }

        int add(int size, int push, int pride) {
            if (number >= SEATS) return FULL;
            number++;
            become(number - 1, SIZE, size);
            become(number - 1, PUSH, push);
            become(number - 1, PRIDE, pride);
            return number - 1;
        }

        int trait(int sitter, int what) {
            if (!has(sitter) || what < 0 || what >= TRAITS) return 0;
            return traits[sitter * TRAITS + what];
        }

        void become(int sitter, int what, int v) {
            if (!has(sitter) || what < 0 || what >= TRAITS) return;
            traits[sitter * TRAITS + what] = v;
        }

        int how(int sitter, int hour) {
            if (!has(sitter) || hour < 0 || hour >= HOURS) return AWAKE;
            return ways[sitter * HOURS + hour];
        }

        void tell(int sitter, int hour, int how) {
            if (!has(sitter) || hour < 0 || hour >= HOURS) return;
            ways[sitter * HOURS + hour] = how;
        }

        boolean isThere(int sitter, int hour) {
            int how = how(sitter, hour);
            return how == AWAKE || how == ASLEEP;
        }
    }

    /** A law of strength as steps over a stack; without steps, the one that stands without a text. */
    private static final class Law {
        /** Steps that are no operator's sign: a number, a NAME, a turned sign, one LINE's answer. */
        static final int NUMBER = '#', NAME = 'n', LESS = '~', ANSWER = ';', TEST = '?', DENY = '!';
        /** What the NAMES stand for, in the order of Tape.nameOf. */
        static final int OWN_SIZE = 0, OWN_PUSH = 1, OWN_PRIDE = 2, OWN_INCHES = 3, OTHERS_INCHES = 4;
        static final int WAY = 5, IN_THE_MIDDLE = 6, COUGH = 7, HOUR = 8, NAMES = 9;
        private static final int MOST_STEPS = 128, MOST_STRENGTH = 999;

        private final int[] signs = new int[MOST_STEPS];
        private final int[] values = new int[MOST_STEPS];
        private final int[] stack = new int[MOST_STEPS];
        final int[] known = new int[NAMES];
        private int steps = 0;
        private int top = 0;

        boolean isTold() {
            return steps > 0;
        }

        boolean hearsCoughs() {
            for (int step = 0; step < steps; step++) {
                if (signs[step] == NAME && values[step] == COUGH) return true;
            }
            return false;
        }

        void clear() {
            steps = 0;
        }

        void become(Law other) {
            System.arraycopy(other.signs, 0, signs, 0, MOST_STEPS);
            System.arraycopy(other.values, 0, values, 0, MOST_STEPS);
            steps = other.steps;
        }

        void add(int sign, int value) {
            if (steps >= MOST_STEPS) return;
            signs[steps] = sign;
            values[steps] = value;
            steps++;
        }

        int steps() {
            return steps;
        }

        /** The TEST at this step, if it fails, goes on with what is added next. */
        void leadOn(int test) {
            if (test >= 0 && test < steps) values[test] = steps;
        }

        /** The strength by what is known. */
        int work() {
            top = 0;
            int step = 0;
            while (step < steps) {
                int sign = signs[step];
                int value = values[step];
                step++;
                switch (sign) {
                    case NUMBER: push(value); break;
                    case NAME: push(value >= 0 && value < NAMES ? known[value] : 0); break;
                    case DENY: push(pull() == 0 ? 1 : 0); break;
                    case LESS: push(-pull()); break;
                    case TEST: if (pull() == 0) step = Math.max(step, value); break;
                    case ANSWER: return Math.max(0, Math.min(pull(), MOST_STRENGTH));
                    default:
                        int second = pull();
                        push(joined(sign, pull(), second));
                }
            }
            return 0;
        }

        private static int joined(int sign, int a, int b) {
            switch (sign) {
                case '+': return a + b;
                case '-': return a - b;
                case '*': return a * b;
                case '/': return b == 0 ? 0 : a / b;
                case '%': return b == 0 ? 0 : a % b;
                case '<': return a < b ? 1 : 0;
                case '=': return a == b ? 1 : 0;
                case '>': return a > b ? 1 : 0;
                case '&': return a != 0 && b != 0 ? 1 : 0;
                case '|': return a != 0 || b != 0 ? 1 : 0;
                default: return 0;
            }
        }

        private void push(int value) {
            if (top >= MOST_STEPS) return;
            stack[top] = value;
            top++;
        }

        private int pull() {
            if (top <= 0) return 0;
            top--;
            return stack[top];
        }
    }

    /** THE TAPE, and how its text is read as a law. */
    private static final class Tape {
        private static final int LONGEST = 120, MOST_OPEN = 6, MOST_DIGITS = 4;
        /** How tight signs bind: | the least, then &, those that compare, + -, and * / % the most. */
        private static final int OR = 0, AND = 1, COMPARED = 2, SUM = 3, PRODUCT = 4;

        private final int[] bytes = new int[LONGEST];
        private int length = 0;
        private int place = 0;
        private int fault = -1;

        int length() {
            return length;
        }

        int add(int letter) {
            if (length >= LONGEST) return FULL;
            bytes[length] = letter;
            length++;
            return length;
        }

        void clear() {
            length = 0;
        }

        /** The FAULT, or below 0: there is none, and the law is read. */
        int readInto(Law law) {
            law.clear();
            place = 0;
            fault = -1;
            readLine(law);
            for (int n = 0; n < LONGEST && fault < 0 && next() == ';'; n++) {
                place++;
                readLine(law);
            }
            if (place < length) fail();
            return fault;
        }

        private void readLine(Law law) {
            readPart(law, OR, 0);
            if (next() != '?') {
                law.add(Law.ANSWER, 0);
                return;
            }
            int test = law.steps();
            law.add(Law.TEST, 0);
            place++;
            readPart(law, OR, 0);
            law.add(Law.ANSWER, 0);
            law.leadOn(test);
        }

        private void readPart(Law law, int tightness, int open) {
            if (tightness > PRODUCT) {
                readOne(law, open);
                return;
            }
            readPart(law, tightness + 1, open);
            int most = tightness == COMPARED ? 1 : LONGEST;
            for (int n = 0; n < most && fault < 0 && tightnessOf(next()) == tightness; n++) {
                int sign = next();
                place++;
                readPart(law, tightness + 1, open);
                law.add(sign, 0);
            }
        }

        private void readOne(Law law, int open) {
            int letter = next();
            boolean opens = letter == '(' || letter == '!' || letter == '-';
            if (fault >= 0) return;
            if (isDigit(letter - '0')) {
                readNumber(law);
            } else if (nameOf(letter) >= 0) {
                law.add(Law.NAME, nameOf(letter));
                place++;
            } else if (opens && open < MOST_OPEN) {
                place++;
                readOpened(law, letter, open + 1);
            } else {
                fail();
            }
        }

        private void readOpened(Law law, int letter, int open) {
            if (letter != '(') {
                readOne(law, open);
                law.add(letter == '!' ? Law.DENY : Law.LESS, 0);
                return;
            }
            readPart(law, OR, open);
            if (next() == ')') place++;
            else fail();
        }

        private void readNumber(Law law) {
            int value = 0;
            for (int n = 0; n < MOST_DIGITS && isDigit(next() - '0'); n++) {
                value = 10 * value + next() - '0';
                place++;
            }
            law.add(Law.NUMBER, value);
        }

        /** The byte that comes next, or -1 behind the last one. */
        private int next() {
            return place < length ? bytes[place] : -1;
        }

        private void fail() {
            if (fault < 0) fault = place;
        }

        private static int tightnessOf(int letter) {
            switch (letter) {
                case '|': return OR;
                case '&': return AND;
                case '<': case '=': case '>': return COMPARED;
                case '+': case '-': return SUM;
                case '*': case '/': case '%': return PRODUCT;
                default: return -1;
            }
        }

        private static int nameOf(int letter) {
            switch (letter) {
                case 's': return Law.OWN_SIZE;
                case 'p': return Law.OWN_PUSH;
                case 'r': return Law.OWN_PRIDE;
                case 'i': return Law.OWN_INCHES;
                case 'j': return Law.OTHERS_INCHES;
                case 'z': return Law.WAY;
                case 'm': return Law.IN_THE_MIDDLE;
                case 'c': return Law.COUGH;
                case 'h': return Law.HOUR;
                default: return -1;
            }
        }
    }

    /** How inches are held, and the HOURS that go over them: in deed, in thought, or kept as an image. */
    private static final class Course {
        private final Sitters people;
        private final Law law;
        final int[] wide = new int[RESTS];
        final int[] left = new int[RESTS];
        final int[] right = new int[RESTS];
        final int[] fight = new int[RESTS];
        final int[] comfort = new int[SEATS];
        final int[] yields = new int[SEATS];
        private final int[] who = new int[SEATS];
        private final int[] lost = new int[SEATS];
        private boolean moved = false;
        int now = 0;
        int fights = 0;
        int draw = 0;
        int quietFrom = 0;

        Course(Sitters people, Law law) {
            this.people = people;
            this.law = law;
            Arrays.fill(wide, 2);
            for (int seat = 0; seat < SEATS; seat++) who[seat] = seat;
        }

        /** Inches, NOW and what has been summed up become as another one's; WIDE stays. */
        void becomeAs(Course other) {
            System.arraycopy(other.left, 0, left, 0, RESTS);
            System.arraycopy(other.right, 0, right, 0, RESTS);
            System.arraycopy(other.comfort, 0, comfort, 0, SEATS);
            System.arraycopy(other.yields, 0, yields, 0, SEATS);
            now = other.now;
            fights = other.fights;
        }

        /** Begins where another one is, with all in their own SEATS and nothing summed up. */
        void begin(Course from, int seed) {
            System.arraycopy(from.wide, 0, wide, 0, RESTS);
            System.arraycopy(from.left, 0, left, 0, RESTS);
            System.arraycopy(from.right, 0, right, 0, RESTS);
            Arrays.fill(comfort, 0);
            Arrays.fill(yields, 0);
            for (int seat = 0; seat < SEATS; seat++) who[seat] = seat;
            now = from.now;
            fights = 0;
            draw = seed;
            quietFrom = now;
        }

        /** Begins at HOUR 0 with all inches FREE. */
        void beginAnew(Course from, int seed) {
            begin(from, seed);
            Arrays.fill(left, 0);
            Arrays.fill(right, 0);
            now = 0;
            quietFrom = 0;
        }

        void changeSeats(int a, int b) {
            if (!people.has(a) || !people.has(b)) return;
            who[a] = b;
            who[b] = a;
        }

        /** WIDE becomes v; inches stay as far as there is room, the LEFT's first. */
        void fit(int rest, int v) {
            wide[rest] = v;
            left[rest] = Math.min(left[rest], v);
            right[rest] = Math.min(right[rest], v - left[rest]);
        }

        int free(int rest) {
            return wide[rest] - left[rest] - right[rest];
        }

        int inchesOf(int sitter) {
            int held = 0;
            for (int seat = 0; seat < people.number(); seat++) {
                if (who[seat] == sitter) held = inchesOfSeat(seat);
            }
            return held;
        }

        int comfortOfAll() {
            int sum = 0;
            for (int sitter = 0; sitter < people.number(); sitter++) sum += comfort[sitter];
            return sum;
        }

        void passHours(int n) {
            for (int k = 0; k < n && now < HOURS; k++) {
                Arrays.fill(fight, 0);
                Arrays.fill(lost, 0);
                moved = false;
                for (int rest = 0; rest < people.rests(); rest++) meet(rest);
                for (int seat = 0; seat < people.number(); seat++) {
                    comfort[who[seat]] += comfortAt(seat);
                    yields[who[seat]] += lost[seat];
                }
                now++;
                if (moved) quietFrom = now;
            }
        }

        int strengthAt(int seat, int rest, int cough) {
            int sitter = who[seat];
            boolean isLeft = seat == rest;
            int own = isLeft ? left[rest] : right[rest];
            int push = people.trait(sitter, PUSH);
            int way = people.how(sitter, now);
            if (!law.isTold()) return way == ASLEEP ? (2 * push + own) / 2 : 2 * push + own;
            law.known[Law.OWN_SIZE] = people.trait(sitter, SIZE);
            law.known[Law.OWN_PUSH] = push;
            law.known[Law.OWN_PRIDE] = people.trait(sitter, PRIDE);
            law.known[Law.OWN_INCHES] = own;
            law.known[Law.OTHERS_INCHES] = isLeft ? right[rest] : left[rest];
            law.known[Law.WAY] = way;
            law.known[Law.IN_THE_MIDDLE] = people.hasRest(seat - 1) && people.hasRest(seat) ? 1 : 0;
            law.known[Law.COUGH] = cough;
            law.known[Law.HOUR] = now;
            return law.work();
        }

        private void meet(int rest) {
            boolean leftThere = people.isThere(who[rest], now);
            boolean rightThere = people.isThere(who[rest + 1], now);
            if (!leftThere) leave(left, rest);
            if (!rightThere) leave(right, rest);
            if (leftThere && rightThere) contend(rest);
            else if (leftThere) takeFree(left, rest);
            else if (rightThere) takeFree(right, rest);
        }

        private void leave(int[] side, int rest) {
            if (side[rest] == 0) return;
            side[rest] = 0;
            moved = true;
        }

        private boolean takeFree(int[] side, int rest) {
            if (free(rest) <= 0) return false;
            side[rest]++;
            moved = true;
            return true;
        }

        private void contend(int rest) {
            int ofLeft = strengthAt(rest, rest, nextCough());
            int ofRight = strengthAt(rest + 1, rest, nextCough());
            if (ofLeft > ofRight && !takeFree(left, rest)) wrest(left, right, rest, rest + 1, ofLeft - ofRight);
            if (ofRight > ofLeft && !takeFree(right, rest)) wrest(right, left, rest, rest, ofRight - ofLeft);
        }

        /** The stronger side takes an inch from the other one's seat, unless that one's PRIDE stands it. */
        private void wrest(int[] stronger, int[] weaker, int rest, int weakerSeat, int by) {
            if (weaker[rest] == 0 || by <= people.trait(who[weakerSeat], PRIDE)) return;
            weaker[rest]--;
            stronger[rest]++;
            lost[weakerSeat] = 1;
            fight[rest] = 1;
            fights++;
            moved = true;
        }

        private int nextCough() {
            draw = draw * 1103515245 + 12345;
            return (draw >>> 8) % 100;
        }

        private int inchesOfSeat(int seat) {
            int held = people.hasRest(seat) ? left[seat] : 0;
            return people.hasRest(seat - 1) ? held + right[seat - 1] : held;
        }

        private int fightsOfSeat(int seat) {
            int sum = people.hasRest(seat) ? fight[seat] : 0;
            return people.hasRest(seat - 1) ? sum + fight[seat - 1] : sum;
        }

        private int comfortAt(int seat) {
            int sitter = who[seat];
            if (people.how(sitter, now) == UP) return 0;
            return 3 * Math.min(inchesOfSeat(seat), people.trait(sitter, SIZE)) - 2 * fightsOfSeat(seat);
        }
    }

    /** What LED tells: the rests behind each HOUR that was. */
    private static final class Past {
        private final int[] left = new int[HOURS * RESTS];
        private final int[] right = new int[HOURS * RESTS];
        private final int[] fight = new int[HOURS * RESTS];

        /** Writes down the HOUR that has just gone in a course. */
        void write(Course course) {
            int from = (course.now - 1) * RESTS;
            if (from < 0 || from + RESTS > left.length) return;
            System.arraycopy(course.left, 0, left, from, RESTS);
            System.arraycopy(course.right, 0, right, from, RESTS);
            System.arraycopy(course.fight, 0, fight, from, RESTS);
        }

        /** Whether the HOUR that has just gone in a course was like the one written down. */
        boolean isAs(Course course, int rests) {
            int hour = course.now - 1;
            for (int rest = 0; rest < rests; rest++) {
                if (course.left[rest] != leftOf(hour, rest)) return false;
                if (course.right[rest] != rightOf(hour, rest)) return false;
                if (course.fight[rest] != fightOf(hour, rest)) return false;
            }
            return true;
        }

        int leftOf(int hour, int rest) {
            return isWithin(hour, rest) ? left[hour * RESTS + rest] : 0;
        }

        int rightOf(int hour, int rest) {
            return isWithin(hour, rest) ? right[hour * RESTS + rest] : 0;
        }

        int fightOf(int hour, int rest) {
            return isWithin(hour, rest) ? fight[hour * RESTS + rest] : 0;
        }

        private static boolean isWithin(int hour, int rest) {
            return hour >= 0 && hour < HOURS && rest >= 0 && rest < RESTS;
        }
    }

    /** The latest CHANGES: those that may be UNDONE, then those that may be DONE AGAIN. */
    private static final class Changes {
        private static final int MOST = 40;

        private final int[] sitters = new int[MOST];
        private final int[] traits = new int[MOST];
        private final int[] before = new int[MOST];
        private final int[] behind = new int[MOST];
        private int done = 0;
        private int all = 0;

        int undoable() {
            return done;
        }

        void add(int sitter, int what, int was, int is) {
            if (done >= MOST) forgetFirst();
            sitters[done] = sitter;
            traits[done] = what;
            before[done] = was;
            behind[done] = is;
            done++;
            all = done;
        }

        int takeBack(Sitters people) {
            if (done <= 0) return STATE;
            done--;
            people.become(sitters[done], traits[done], before[done]);
            return done;
        }

        int makeAgain(Sitters people) {
            if (done >= all) return STATE;
            people.become(sitters[done], traits[done], behind[done]);
            done++;
            return all - done;
        }

        private void forgetFirst() {
            System.arraycopy(sitters, 1, sitters, 0, MOST - 1);
            System.arraycopy(traits, 1, traits, 0, MOST - 1);
            System.arraycopy(before, 1, before, 0, MOST - 1);
            System.arraycopy(behind, 1, behind, 0, MOST - 1);
            done = MOST - 1;
        }
    }

    /** The HOLDINGS kept as BODIES, their ACTS and THE TRACE. */
    private static final class Holdings {
        private static final int MOST = 50, KINDS = 8, ACTS = 4, MOST_KEPT = 24, DEEPEST = 40;
        private static final int HOLDS = 0, PUSHES = 1, YIELDS = 2, TRADES = 3;
        /** By KIND: the KIND above it, -1 above HOLDING. */
        private static final int[] ABOVE = {-1, 0, 0, 2, 1, 3, 0, 4};
        /** By KIND, four each: its bodies of the ACTS (those of interfaces are HOLDING's); 0: none. */
        private static final int[] OWN = {
            1, 10, 11, 2,
            20, 0, 0, 0,
            0, 30, 0, 0,
            0, 41, 40, 0,
            0, 0, 50, 0,
            0, 0, 0, 60,
            70, 0, 0, 0,
            0, 80, 0, 81,
        };

        private final int[] kinds = new int[MOST];
        private final int[] trace = new int[MOST_KEPT];
        private int number = 0;
        private int ran = 0;
        private int actor = 0;

        static boolean isKind(int kind) {
            return kind >= 0 && kind < KINDS;
        }

        int number() {
            return number;
        }

        int ran() {
            return ran;
        }

        boolean has(int body) {
            return body >= 0 && body < number;
        }

        int add(int kind) {
            if (number >= MOST) return FULL;
            kinds[number] = kind;
            number++;
            return number - 1;
        }

        int kindOf(int body) {
            return has(body) ? kinds[body] : -1;
        }

        boolean isUnder(int body, int k) {
            int kind = kindOf(body);
            for (int up = 0; up < KINDS && isKind(kind) && kind != k; up++) kind = ABOVE[kind];
            return kind == k;
        }

        int ranAs(int i) {
            if (i < 0 || i >= MOST_KEPT || i >= ran) return BAD;
            return trace[i];
        }

        int run(int body, int act, int x) {
            ran = 0;
            if (!has(body) || act < 0 || act >= ACTS) return 0;
            actor = body;
            return perform(act, kinds[body], x, 0);
        }

        /** Runs the body of an ACT that a KIND has, or the next one above it that has one. */
        private int perform(int act, int kind, int x, int depth) {
            int holder = holderOf(act, kind);
            if (!isKind(holder) || depth > DEEPEST) return 0;
            int own = kindOf(actor);
            int above = ABOVE[holder];
            int body = OWN[holder * ACTS + act];
            int deeper = depth + 1;
            begin(body);
            switch (body) {
                case 1: return x + actor;
                case 2: return perform(PUSHES, own, x, deeper) - perform(YIELDS, own, 1, deeper);
                case 10: return perform(HOLDS, own, x, deeper) * 2;
                case 11: return x ^ actor;
                case 20: return perform(HOLDS, above, x, deeper) + 3;
                case 30: return -perform(PUSHES, above, x, deeper);
                case 40: return perform(YIELDS, above, x, deeper) * 3;
                case 41: return perform(PUSHES, above, x + 1, deeper);
                case 50: return perform(YIELDS, above, x, deeper) - perform(HOLDS, own, 2, deeper);
                case 60: return perform(TRADES, above, x, deeper) ^ 5;
                case 70: return perform(HOLDS, above, x, deeper) * 2;
                case 80: return perform(PUSHES, above, x, deeper) + perform(YIELDS, own, 2, deeper);
                case 81: return perform(TRADES, above, x, deeper) - 1;
                default: return 0;
            }
        }

        private static int holderOf(int act, int kind) {
            int holder = kind;
            for (int up = 0; up < KINDS && isKind(holder); up++) {
                if (OWN[holder * ACTS + act] != 0) return holder;
                holder = ABOVE[holder];
            }
            return -1;
        }

        private void begin(int body) {
            if (ran < MOST_KEPT) trace[ran] = body;
            ran++;
        }
    }

    /** A SHELF: nothing, a HOLDING, or a ROW of some sort. */
    private static final class Shelf {
        static final int NOTHING = -2, HOLDING = -1, BYTES = 0, SHORTS = 1, INTS = 2, LONGS = 3, BOOLEANS = 4;
        static final int LONGEST = 60;

        final long[] elements = new long[LONGEST];
        private int length = 0;
        int sort = NOTHING;
        int body = NOBODY;

        boolean isRow() {
            return sort >= BYTES;
        }

        boolean hasPlace(int i) {
            return i >= 0 && i < length;
        }

        /** Whether n elements from i on are there. */
        boolean hasPlaces(int i, int n) {
            return i >= 0 && n >= 0 && i <= length - n;
        }

        void clear() {
            become(NOTHING, 0, NOBODY);
        }

        void hold(int holding) {
            become(HOLDING, 0, holding);
        }

        void layRow(int sortOfAll, int n) {
            Arrays.fill(elements, 0);
            become(sortOfAll, n, NOBODY);
        }

        void lay(int i, long v) {
            if (hasPlace(i)) elements[i] = lowestBits(v);
        }

        long at(int i) {
            return hasPlace(i) ? elements[i] : 0;
        }

        private void become(int newSort, int newLength, int newBody) {
            sort = newSort;
            length = newLength;
            body = newBody;
        }

        private long lowestBits(long v) {
            switch (sort) {
                case BYTES: return (byte) v;
                case SHORTS: return (short) v;
                case INTS: return (int) v;
                case BOOLEANS: return v != 0 ? 1 : 0;
                default: return v;
            }
        }
    }
}
