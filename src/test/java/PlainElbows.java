import java.lang.reflect.Array;
import java.util.ArrayDeque;
import java.util.ArrayList;
import java.util.Deque;
import java.util.List;

/**
 * A second telling of the document, slow and by other means than the program's (real kinds, real arrays,
 * texts taken apart as texts, hours kept whole), so that random runs can be compared with it.
 */
public final class PlainElbows {
    static final int BAD = -1, NOT = -2, FULL = -3, STATE = -5, VOID = -2000000000;

    /** An answer that is a refusal. */
    static final class Refused extends RuntimeException {
        final int code;

        Refused(int code) {
            super(null, null, false, false);
            this.code = code;
        }
    }

    static final class Man {
        final int[] traits = new int[5];
        final int[] how = new int[24];
    }

    /** What one HOUR left behind. */
    static final class Hour {
        final int[][] rests = new int[7][3];
        final int[] comfort = new int[8];
        final boolean[] lost = new boolean[8];
        boolean moved = false;

        int fights() {
            int sum = 0;
            for (int[] rest : rests) sum += rest[2];
            return sum;
        }
    }

    /** Men in their seats, inches {left, right} of the rests, and the draws. */
    final class World {
        final List<Man> seats = new ArrayList<>(men);
        final int[][] held = new int[7][];
        final int[] width = widths.clone();
        int hour = past.size();
        int z;

        World(int z) {
            this.z = z;
            for (int r = 0; r < 7; r++) held[r] = inches[r].clone();
        }

        int cough() {
            z = z * 1103515245 + 12345;
            return (z >>> 8) % 100;
        }

        boolean there(int seat) {
            return seats.get(seat).how[hour] < 2;
        }

        int strengthOf(int seat, int rest, int cough) {
            Man man = seats.get(seat);
            int side = seat == rest ? 0 : 1;
            int own = held[rest][side];
            if (lawText == null) {
                int full = 2 * man.traits[1] + own;
                return man.how[hour] == 1 ? full / 2 : full;
            }
            int middle = seat > 0 && seat < seats.size() - 1 ? 1 : 0;
            int[] known = {man.traits[0], man.traits[1], man.traits[2], own, held[rest][1 - side],
                man.how[hour], middle, cough, hour};
            int worth = PlainLaw.worth(lawText, known);
            return worth < 0 ? 0 : worth > 999 ? 999 : worth;
        }

        Hour pass() {
            Hour gone = new Hour();
            for (int r = 0; r + 1 < seats.size(); r++) meet(r, gone);
            for (int seat = 0; seat < seats.size(); seat++) {
                Man man = seats.get(seat);
                int has = 0;
                int fights = 0;
                if (seat > 0) {
                    has += held[seat - 1][1];
                    fights += gone.rests[seat - 1][2];
                }
                if (seat + 1 < seats.size()) {
                    has += held[seat][0];
                    fights += gone.rests[seat][2];
                }
                int comes = 3 * Math.min(has, man.traits[0]) - 2 * fights;
                gone.comfort[men.indexOf(man)] = man.how[hour] == 2 ? 0 : comes;
            }
            hour++;
            return gone;
        }

        private void meet(int r, Hour gone) {
            int[] h = held[r];
            for (int side = 0; side < 2; side++) {
                if (!there(r + side) && h[side] > 0) {
                    h[side] = 0;
                    gone.moved = true;
                }
            }
            int winner = -1;
            int by = 0;
            if (there(r) && there(r + 1)) {
                int a = strengthOf(r, r, cough());
                int b = strengthOf(r + 1, r, cough());
                by = Math.abs(a - b);
                winner = a == b ? -1 : a > b ? 0 : 1;
            } else if (there(r) || there(r + 1)) {
                winner = there(r) ? 0 : 1;
                by = -1;
            }
            if (winner >= 0 && h[0] + h[1] < width[r]) {
                h[winner]++;
                gone.moved = true;
            } else if (winner >= 0 && h[1 - winner] > 0 && by > seats.get(r + 1 - winner).traits[2]) {
                h[winner]++;
                h[1 - winner]--;
                gone.moved = true;
                gone.rests[r][2] = 1;
                gone.lost[men.indexOf(seats.get(r + 1 - winner))] = true;
            }
            gone.rests[r][0] = h[0];
            gone.rests[r][1] = h[1];
        }

        List<Hour> passAll(int n) {
            List<Hour> all = new ArrayList<>();
            for (int k = 0; k < n; k++) all.add(pass());
            return all;
        }

        void narrow(int r, int v) {
            width[r] = v;
            held[r] = fitted(held[r], v);
        }
    }

    static int[] fitted(int[] held, int v) {
        int left = Math.min(held[0], v);
        return new int[] {left, Math.min(held[1], v - left)};
    }

    interface Holds {
        int number();

        List<Integer> ran();

        default int holds(int x) {
            ran().add(1);
            return x + number();
        }
    }

    interface Trades {
        List<Integer> ran();

        int pushes(int x);

        int yields(int x);

        default int trades(int x) {
            ran().add(2);
            return pushes(x) - yields(1);
        }
    }

    static class Holding implements Holds, Trades {
        int number;
        List<Integer> ran;

        public int number() {
            return number;
        }

        public List<Integer> ran() {
            return ran;
        }

        public int pushes(int x) {
            ran.add(10);
            return holds(x) * 2;
        }

        public int yields(int x) {
            ran.add(11);
            return x ^ number;
        }
    }

    static class First extends Holding {
        public int holds(int x) {
            ran.add(20);
            return super.holds(x) + 3;
        }
    }

    static class Pushed extends Holding {
        public int pushes(int x) {
            ran.add(30);
            return -super.pushes(x);
        }
    }

    static class Shared extends Pushed {
        public int yields(int x) {
            ran.add(40);
            return super.yields(x) * 3;
        }

        public int pushes(int x) {
            ran.add(41);
            return super.pushes(x + 1);
        }
    }

    static class Sold extends First {
        public int yields(int x) {
            ran.add(50);
            return super.yields(x) - holds(2);
        }
    }

    static class Lost extends Shared {
        public int trades(int x) {
            ran.add(60);
            return super.trades(x) ^ 5;
        }
    }

    static class Slept extends Holding {
        public int holds(int x) {
            ran.add(70);
            return super.holds(x) * 2;
        }
    }

    static class Ceded extends Sold {
        public int pushes(int x) {
            ran.add(80);
            return super.pushes(x) + yields(2);
        }

        public int trades(int x) {
            ran.add(81);
            return super.trades(x) - 1;
        }
    }

    static final Class<?>[] KINDS = {Holding.class, First.class, Pushed.class, Shared.class, Sold.class,
        Lost.class, Slept.class, Ceded.class};

    final List<Man> men = new ArrayList<>();
    final int[] widths = {2, 2, 2, 2, 2, 2, 2};
    int[][] inches = new int[7][2];
    List<Hour> past = new ArrayList<>();
    int[][] imageInches = null;
    List<Hour> imagePast = null;
    final StringBuilder tape = new StringBuilder();
    String lawText = null;
    final Deque<int[]> undoable = new ArrayDeque<>();
    final Deque<int[]> redoable = new ArrayDeque<>();
    final List<Holding> bodies = new ArrayList<>();
    final List<Integer> ran = new ArrayList<>();
    final Object[] shelves = new Object[6];

    static void want(boolean so, int code) {
        if (!so) throw new Refused(code);
    }

    static void within(int value, int least, int most) {
        want(value >= least && value <= most, BAD);
    }

    Man man(int sitter) {
        within(sitter, 0, men.size() - 1);
        return men.get(sitter);
    }

    void restThere(int rest) {
        within(rest, 0, men.size() - 2);
    }

    int now() {
        return past.size();
    }

    public int sitter(int spr) {
        within(spr, 0, 999);
        want(now() == 0, STATE);
        want(men.size() < 8, FULL);
        Man man = new Man();
        man.traits[0] = spr / 100;
        man.traits[1] = spr % 100 / 10;
        man.traits[2] = spr % 10;
        men.add(man);
        return men.size() - 1;
    }

    public int sitters(int shelf, int i, int n) {
        within(shelf, 0, 5);
        within(n, 1, 8);
        want(shelves[shelf] == null || shelves[shelf] instanceof byte[], -12);
        want(now() == 0, STATE);
        byte[] row = (byte[]) shelves[shelf];
        int came = 0;
        try {
            for (long at = i; came < n; at += 3, came++) {
                int spr = 0;
                for (int k = 0; k < 3; k++) {
                    byte digit = row[Math.toIntExact(at + k)];
                    want(digit >= 0 && digit <= 9, BAD);
                    spr = 10 * spr + digit;
                }
                sitter(spr);
            }
        } catch (NullPointerException | ArrayIndexOutOfBoundsException | ArithmeticException | Refused ends) {
            return came;
        }
        return came;
    }

    public int wide(int rest, int v) {
        within(rest, 0, 6);
        within(v, 0, 9);
        int was = widths[rest];
        widths[rest] = v;
        inches[rest] = fitted(inches[rest], v);
        return was;
    }

    public int hours(int sitter, int ft, int how) {
        Man man = man(sitter);
        within(how, 0, 3);
        within(ft, 0, 2323);
        int from = ft / 100;
        int to = ft % 100;
        within(to, from, 23);
        want(from >= now(), STATE);
        int n = 0;
        for (int h = from; h <= to; h++, n++) man.how[h] = how;
        return n;
    }

    public int mend(int sitter, int what, int v) {
        Man man = man(sitter);
        within(what, 0, 4);
        within(v, 0, what >= 3 ? 99 : 9);
        int was = man.traits[what];
        if (was == v) return was;
        man.traits[what] = v;
        redoable.clear();
        undoable.push(new int[] {sitter, what, was, v});
        if (undoable.size() > 40) undoable.removeLast();
        return was;
    }

    public int of(int sitter, int what) {
        if (sitter < 0 || sitter >= men.size()) return VOID;
        Man man = men.get(sitter);
        int sum = 0;
        if (what >= 0 && what < 5) return man.traits[what];
        if (what == 5) return heldBy(inches, sitter);
        if (what == 6) {
            for (Hour hour : past) sum += hour.comfort[sitter];
            return sum;
        }
        if (what == 7) {
            for (Hour hour : past) sum += hour.lost[sitter] ? 1 : 0;
            return sum;
        }
        return what >= 100 && what <= 123 ? man.how[what - 100] : VOID;
    }

    int heldBy(int[][] held, int seat) {
        int sum = 0;
        if (seat > 0) sum += held[seat - 1][1];
        if (seat < men.size() - 1) sum += held[seat][0];
        return sum;
    }

    public int feed(int letter) {
        within(letter, 0, 255);
        want(tape.length() < 120, FULL);
        tape.append((char) letter);
        return tape.length();
    }

    public int law() {
        String text = tape.toString();
        tape.setLength(0);
        int fault = PlainLaw.fault(text);
        if (fault >= 0) return -100 - fault;
        lawText = text;
        return 1;
    }

    public int rest(int rest, int what) {
        within(rest, 0, 6);
        within(what, 0, 4);
        if (what == 4) return widths[rest];
        restThere(rest);
        int[] h = inches[rest];
        return what == 0 ? widths[rest] : what == 1 ? h[0] : what == 2 ? h[1] : widths[rest] - h[0] - h[1];
    }

    public int strength(int sitter, int rest, int cough) {
        Man man = man(sitter);
        restThere(rest);
        want(sitter == rest || sitter == rest + 1, BAD);
        within(cough, 0, 99);
        want(now() < 24, BAD);
        want(man.how[now()] < 2, BAD);
        return new World(0).strengthOf(sitter, rest, cough);
    }

    public int go(int seed, int n) {
        within(n, 1, 24);
        want(now() + n <= 24, STATE);
        World world = new World(seed);
        int fights = 0;
        for (Hour hour : world.passAll(n)) {
            fights += hour.fights();
            past.add(hour);
        }
        inches = world.held;
        return fights;
    }

    public int led(int hr, int what) {
        within(hr, 0, 239);
        within(what, 0, 2);
        restThere(hr % 10);
        within(hr / 10, 0, now() - 1);
        return past.get(hr / 10).rests[hr % 10][what];
    }

    public int judge(int shelf, int rest) {
        within(shelf, 0, 5);
        restThere(rest);
        want(shelves[shelf] != null, -11);
        want(shelves[shelf] instanceof byte[], -12);
        byte[] told = (byte[]) shelves[shelf];
        for (int at = 0; at < told.length && at / 2 < now(); at++) {
            if (told[at] != past.get(at / 2).rests[rest][at % 2]) return at / 2;
        }
        return NOT;
    }

    public int match() {
        want(now() > 0, STATE);
        for (int k = 0; k < 100; k++) {
            World world = new World(k);
            world.hour = 0;
            for (int[] h : world.held) h[0] = h[1] = 0;
            boolean same = true;
            for (Hour hour : past) same &= java.util.Arrays.deepEquals(world.pass().rests, hour.rests);
            if (same) return k;
        }
        return NOT;
    }

    public int then(int seed, int k, int sitter, int what) {
        boolean known = sitter == -1 ? what == 0 : sitter >= 0 && sitter < men.size() && (what | 1) == 1;
        if (!known || k < 0 || k > 24) return VOID;
        want(k <= 24 - now(), STATE);
        World world = new World(seed);
        int sum = 0;
        for (Hour hour : world.passAll(k)) sum += sitter == -1 ? hour.fights() : hour.comfort[sitter];
        return sitter >= 0 && what == 0 ? heldBy(world.held, sitter) : sum;
    }

    public int quiet(int seed) {
        int first = now();
        List<Hour> all = new World(seed).passAll(24 - now());
        for (int k = 0; k < all.size(); k++) {
            if (all.get(k).moved) first = now() + k + 1;
        }
        return first == 24 && now() < 24 ? NOT : first;
    }

    int[] comfortsIfChanged(int seed, int a, int b) {
        World world = new World(seed);
        if (a != b) java.util.Collections.swap(world.seats, a, b);
        int[] sums = new int[9];
        for (Hour hour : world.passAll(24 - now())) {
            for (int s = 0; s < 8; s++) {
                sums[s] += hour.comfort[s];
                sums[8] += hour.comfort[s];
            }
        }
        return sums;
    }

    public int seat(int seed, int sitter) {
        man(sitter);
        int[] comes = new int[men.size()];
        for (int to = 0; to < men.size(); to++) comes[to] = comfortsIfChanged(seed, sitter, to)[sitter];
        int most = java.util.Arrays.stream(comes).max().getAsInt();
        if (comes[sitter] == most) return sitter;
        int to = 0;
        while (comes[to] != most) to++;
        return to;
    }

    public int change(int seed) {
        int most = comfortsIfChanged(seed, 0, 0)[8];
        int pair = NOT;
        for (int ab = 0; ab < 80; ab++) {
            int a = ab / 10;
            int b = ab % 10;
            if (a >= b || b >= men.size()) continue;
            int sum = comfortsIfChanged(seed, a, b)[8];
            if (sum <= most) continue;
            most = sum;
            pair = ab;
        }
        return pair;
    }

    public int wider(int seed, int rest) {
        restThere(rest);
        for (int v = 0; v < 10; v++) {
            World world = new World(seed);
            world.narrow(rest, v);
            boolean fought = false;
            for (Hour hour : world.passAll(24 - now())) fought |= hour.rests[rest][2] == 1;
            if (!fought) return v;
        }
        return NOT;
    }

    public int both(int rest, int what) {
        restThere(rest);
        within(what, 0, 1);
        List<int[]> ways = new ArrayList<>();
        for (int l = 0; l <= widths[rest]; l++) {
            int a = Math.min(l, men.get(rest).traits[0]);
            int b = Math.min(widths[rest] - l, men.get(rest + 1).traits[0]);
            ways.add(new int[] {-(a + b), -Math.min(a, b), l});
        }
        ways.sort(java.util.Arrays::compare);
        return what == 0 ? ways.get(0)[2] : -ways.get(0)[0];
    }

    /** Inch by inch: {worth, inches, what the LEFT one has, left's inches, right's inches}. */
    int[] dealt(int rest) {
        int[] h = inches[rest].clone();
        Man[] two = {men.get(rest), men.get(rest + 1)};
        int seller = would(two, h, 0) ? 0 : 1;
        int worth = 0;
        int n = 0;
        int has = 0;
        while (would(two, h, seller)) {
            h[seller]--;
            h[1 - seller]++;
            n++;
            int ask = two[seller].traits[3];
            int offer = two[1 - seller].traits[4];
            worth += offer - ask;
            has += (seller == 0 ? 1 : -1) * ((ask + offer) / 2);
        }
        return new int[] {worth, n, has, h[0], h[1]};
    }

    static boolean would(Man[] two, int[] h, int seller) {
        Man buyer = two[1 - seller];
        return h[seller] > 0 && buyer.traits[4] > two[seller].traits[3] && h[1 - seller] < buyer.traits[0];
    }

    public int deals(int rest, int what) {
        if (rest < 0 || rest > men.size() - 2 || what < 0 || what > 2) return VOID;
        return dealt(rest)[what];
    }

    public int sell(int rest) {
        restThere(rest);
        int[] dealt = dealt(rest);
        inches[rest] = new int[] {dealt[3], dealt[4]};
        return dealt[1];
    }

    public int image() {
        imagePast = new ArrayList<>(past);
        imageInches = new int[7][];
        for (int r = 0; r < 7; r++) imageInches[r] = inches[r].clone();
        return now();
    }

    public int back() {
        want(imagePast != null, STATE);
        past = new ArrayList<>(imagePast);
        for (int r = 0; r < 7; r++) inches[r] = fitted(imageInches[r], widths[r]);
        return now();
    }

    public int undo() {
        return lay(undoable, redoable, 2);
    }

    public int redo() {
        return lay(redoable, undoable, 3);
    }

    int lay(Deque<int[]> from, Deque<int[]> to, int which) {
        want(!from.isEmpty(), STATE);
        int[] change = from.pop();
        men.get(change[0]).traits[change[1]] = change[which];
        to.push(change);
        return from.size();
    }

    public int body(int kind) {
        within(kind, 0, 7);
        want(bodies.size() < 50, FULL);
        Holding[] made = {new Holding(), new First(), new Pushed(), new Shared(), new Sold(), new Lost(),
            new Slept(), new Ceded()};
        made[kind].number = bodies.size();
        made[kind].ran = ran;
        bodies.add(made[kind]);
        return bodies.size() - 1;
    }

    public int act(int body, int act, int x) {
        ran.clear();
        if (body < 0 || body >= bodies.size()) return 0;
        Holding holding = bodies.get(body);
        switch (act) {
            case 0: return holding.holds(x);
            case 1: return holding.pushes(x);
            case 2: return holding.yields(x);
            case 3: return holding.trades(x);
            default: return 0;
        }
    }

    public int trace(int i) {
        within(i, 0, Math.min(ran.size(), 24) - 1);
        return ran.get(i);
    }

    public int keep(int shelf, int body) {
        within(shelf, 0, 5);
        within(body, -1, bodies.size() - 1);
        shelves[shelf] = body == -1 ? null : bodies.get(body);
        return 1;
    }

    public int row(int shelf, int sort, int n) {
        within(shelf, 0, 5);
        within(sort, 0, 4);
        want(n <= 60, BAD);
        Class<?>[] sorts = {byte.class, short.class, int.class, long.class, boolean.class};
        try {
            shelves[shelf] = Array.newInstance(sorts[sort], n);
        } catch (NegativeArraySizeException refused) {
            return -14;
        }
        return 1;
    }

    Object rowOn(int shelf) {
        within(shelf, 0, 5);
        want(shelves[shelf] != null, -11);
        want(shelves[shelf].getClass().isArray(), -12);
        return shelves[shelf];
    }

    public int put(int shelf, int i, long v) {
        Object row = rowOn(shelf);
        try {
            if (row instanceof byte[]) ((byte[]) row)[i] = (byte) v;
            else if (row instanceof short[]) ((short[]) row)[i] = (short) v;
            else if (row instanceof int[]) ((int[]) row)[i] = (int) v;
            else if (row instanceof long[]) ((long[]) row)[i] = v;
            else ((boolean[]) row)[i] = v != 0;
        } catch (ArrayIndexOutOfBoundsException refused) {
            return -13;
        }
        return 1;
    }

    public long element(int shelf, int i) {
        try {
            Object row = rowOn(shelf);
            if (row instanceof boolean[]) return ((boolean[]) row)[i] ? 1 : 0;
            return Array.getLong(row, i);
        } catch (ArrayIndexOutOfBoundsException | Refused refused) {
            return Long.MIN_VALUE;
        }
    }

    public int shift(int shelf, int i, int other, int j, int n) {
        within(shelf, 0, 5);
        within(other, 0, 5);
        try {
            want(shelves[shelf] == null || shelves[other] == null
                || shelves[shelf].getClass().isArray(), -12);
            System.arraycopy(shelves[shelf], i, shelves[other], j, n);
        } catch (NullPointerException refused) {
            return -11;
        } catch (ArrayStoreException refused) {
            return -12;
        } catch (IndexOutOfBoundsException refused) {
            return -13;
        }
        return n;
    }

    public int taken(int shelf, int k) {
        within(shelf, 0, 5);
        within(k, 0, 7);
        want(shelves[shelf] != null, -11);
        want(KINDS[k].isInstance(shelves[shelf]), -12);
        int kind = 0;
        while (KINDS[kind] != shelves[shelf].getClass()) kind++;
        return kind;
    }

    public int count(int what) {
        int fights = 0;
        for (Hour hour : past) fights += hour.fights();
        int[] all = {men.size(), Math.max(0, men.size() - 1), now(), fights, tape.length(), undoable.size(),
            bodies.size(), ran.size()};
        within(what, 0, 7);
        return all[what];
    }
}
