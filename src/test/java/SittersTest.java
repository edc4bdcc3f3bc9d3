/** Promises 1 to 11: sitters, rests, hours, the law. */
final class SittersTest {
    private static final int BAD = -1, FULL = -3, STATE = -5, VOID = -2000000000;
    private static final int MAX = Integer.MAX_VALUE, MIN = Integer.MIN_VALUE;
    private final Checks c;

    SittersTest(Checks checks) {
        c = checks;
    }

    void runAll() {
        newObject();
        sitter();
        sitters();
        sittersEnd();
        wide();
        hours();
        mend();
        of();
        feed();
        law();
        lawFaults();
        lawWorth();
        rest();
        strength();
    }

    private void newObject() {
        TwoElbows x = new TwoElbows();
        for (int what = 0; what < 8; what++) c.same(1, "count(" + what + ")", x.count(what), 0);
        for (int r = 0; r < 7; r++) {
            c.same(1, "rest(" + r + ", 4)", x.rest(r, 4), 2);
            c.same(1, "rest(" + r + ", 0)", x.rest(r, 0), BAD);
        }
        for (int s = 0; s < 6; s++) c.same(1, "taken(" + s + ", 0)", x.taken(s, 0), -11);
        c.same(1, "of(0, 0)", x.of(0, 0), VOID);
        c.same(1, "back()", x.back(), STATE);
        c.same(1, "undo()", x.undo(), STATE);
        c.same(1, "redo()", x.redo(), STATE);
        c.same(1, "trace(0)", x.trace(0), BAD);
        c.same(1, "go(1, 24)", x.go(1, 24), 0);
        c.same(1, "BAD", TwoElbows.BAD, -1);
        c.same(1, "NOT", TwoElbows.NOT, -2);
        c.same(1, "FULL", TwoElbows.FULL, -3);
        c.same(1, "STATE", TwoElbows.STATE, -5);
        c.same(1, "VOID", TwoElbows.VOID, -2000000000);
    }

    private void sitter() {
        TwoElbows x = new TwoElbows();
        for (int bad : new int[] {-1, 1000, MIN, MAX}) c.same(2, "sitter(" + bad + ")", x.sitter(bad), BAD);
        int[] spr = {0, 999, 123, 987, 100, 10, 1, 505};
        for (int k = 0; k < 8; k++) {
            c.same(2, "sitter(" + spr[k] + ")", x.sitter(spr[k]), k);
            c.same(2, "SIZE", x.of(k, 0), spr[k] / 100);
            c.same(2, "PUSH", x.of(k, 1), spr[k] / 10 % 10);
            c.same(2, "PRIDE", x.of(k, 2), spr[k] % 10);
            c.same(2, "ASK", x.of(k, 3), 0);
            c.same(2, "OFFER", x.of(k, 4), 0);
            c.same(2, "is AWAKE", x.of(k, 123), 0);
        }
        c.same(2, "a ninth", x.sitter(111), FULL);
        c.same(2, "a ninth that is bad", x.sitter(-1), BAD);
        c.same(2, "count(0)", x.count(0), 8);
        x.go(0, 1);
        c.same(2, "STATE is named ahead of FULL", x.sitter(111), STATE);
        c.same(2, "BAD is named ahead of STATE", x.sitter(1000), BAD);
        x = Scene.of(111);
        x.image();
        x.go(0, 1);
        c.same(2, "NOW 1", x.sitter(111), STATE);
        x.back();
        c.same(2, "NOW 0 again", x.sitter(111), 1);
    }

    private void sitters() {
        TwoElbows x = new TwoElbows();
        Scene.row(x, 0, 0, 1, 2, 3, 4, 5, 6, 7, 8, 9);
        c.same(3, "sitters(0, 0, 2)", x.sitters(0, 0, 2), 2);
        c.same(3, "PRIDE of 0", x.of(0, 2), 3);
        c.same(3, "SIZE of 1", x.of(1, 0), 4);
        c.same(3, "PUSH of 1", x.of(1, 1), 5);
        c.same(3, "sitters(0, 1, 1)", x.sitters(0, 1, 1), 1);
        c.same(3, "SIZE of 2", x.of(2, 0), 2);
        c.same(3, "PRIDE of 2", x.of(2, 2), 4);
        c.same(3, "shelf -1", x.sitters(-1, 0, 1), BAD);
        c.same(3, "shelf 6", x.sitters(6, 0, 1), BAD);
        c.same(3, "n 0", x.sitters(0, 0, 0), BAD);
        c.same(3, "n 9", x.sitters(0, 0, 9), BAD);
        c.same(3, "nothing there, n 0", x.sitters(5, 0, 0), BAD);
        c.same(3, "nothing there", x.sitters(5, 0, 3), 0);
        for (int sort = 1; sort < 5; sort++) {
            x.row(1, sort, 9);
            c.same(3, "a row of sort " + sort, x.sitters(1, 0, 1), -12);
        }
        x.body(0);
        x.keep(1, 0);
        c.same(3, "a HOLDING", x.sitters(1, 0, 1), -12);
        c.same(3, "count(0)", x.count(0), 3);
        x.go(0, 1);
        c.same(3, "NOW 1", x.sitters(0, 0, 1), STATE);
        c.same(3, "NOW 1, nothing there", x.sitters(5, 0, 1), STATE);
        c.same(3, "NOW 1, from place -1", x.sitters(0, -1, 1), STATE);
        c.same(3, "NOW 1, a HOLDING", x.sitters(1, 0, 1), -12);
    }

    private void sittersEnd() {
        TwoElbows x = new TwoElbows();
        Scene.row(x, 0, 0, 1, 1, 1, 2, 2, 2, 3, 3);
        c.same(3, "a row that ends within a three", x.sitters(0, 0, 8), 2);
        c.same(3, "from its last three on", x.sitters(0, 5, 8), 1);
        c.same(3, "from behind that on", x.sitters(0, 6, 8), 0);
        c.same(3, "from its end on", x.sitters(0, 8, 1), 0);
        c.same(3, "from far on", x.sitters(0, MAX, 8), 0);
        for (int i : new int[] {-1, -2, -3, -24, MIN, MIN + 1, MAX - 1}) {
            c.same(3, "from place " + i, x.sitters(0, i, 8), 0);
            c.same(3, "nothing there, from place " + i, x.sitters(5, i, 1), 0);
            c.same(3, "n 9, from place " + i, x.sitters(0, i, 9), BAD);
        }
        x.row(4, 1, 9);
        c.same(3, "no ROW of bytes, from place -1", x.sitters(4, -1, 1), -12);
        for (int k = 0; k < 3; k++) {
            Scene.row(x, 1, 0, 9, 9, 9, 0, 0, 0, 5, 5, 5);
            x.put(1, 3 + k, 10);
            c.same(3, "one with 10", x.sitters(1, 0, 3), 1);
            x.put(1, 3 + k, -1);
            c.same(3, "one with -1", x.sitters(1, 3, 2), 0);
        }
        c.same(3, "count(0)", x.count(0), 6);
        Scene.row(x, 2, 0, 7, 7, 7, 8, 8, 8, 9, 9, 9);
        c.same(3, "two are left", x.sitters(2, 0, 3), 2);
        c.same(3, "the last one", x.of(7, 0), 8);
        c.same(3, "FULL", x.sitters(2, 0, 3), 0);
        c.same(3, "count(0)", x.count(0), 8);
    }

    private void wide() {
        TwoElbows x = Scene.of(999, 999);
        c.same(4, "wide(0, 9)", x.wide(0, 9), 2);
        c.same(4, "wide(0, 0)", x.wide(0, 0), 9);
        c.same(4, "wide(6, 3), not there", x.wide(6, 3), 2);
        c.same(4, "rest(6, 4)", x.rest(6, 4), 3);
        c.same(4, "wide(-1, 1)", x.wide(-1, 1), BAD);
        c.same(4, "wide(7, 1)", x.wide(7, 1), BAD);
        c.same(4, "wide(0, -1)", x.wide(0, -1), BAD);
        c.same(4, "wide(0, 10)", x.wide(0, 10), BAD);
        c.same(4, "wide(0, 9)", x.wide(0, 9), 0);
        x = inches(5, 4);
        c.same(4, "wide(0, 9), the same", x.wide(0, 9), 9);
        c.same(4, "RIGHT's as they were", x.rest(0, 2), 4);
        c.same(4, "wide(0, 7)", x.wide(0, 7), 9);
        c.same(4, "LEFT's stay first", x.rest(0, 1), 5);
        c.same(4, "RIGHT's have what is left", x.rest(0, 2), 2);
        c.same(4, "wide(0, 3)", x.wide(0, 3), 7);
        c.same(4, "LEFT's as far as there is room", x.rest(0, 1), 3);
        c.same(4, "RIGHT's none", x.rest(0, 2), 0);
        c.same(4, "wide(0, 8)", x.wide(0, 8), 3);
        c.same(4, "LEFT's as they were", x.rest(0, 1), 3);
        c.same(4, "FREE", x.rest(0, 3), 5);
    }

    /** One rest, 9 wide, of which the LEFT and the RIGHT sitter hold so many inches. */
    static TwoElbows inches(int left, int right) {
        TwoElbows x = Scene.of(950, 950);
        x.wide(0, 9);
        Scene.law(x, "(s=8)+1");
        if (left > 0) {
            x.mend(0, 0, 8);
            x.go(0, left);
            x.mend(0, 0, 9);
        }
        if (right > 0) {
            x.mend(1, 0, 8);
            x.go(0, right);
            x.mend(1, 0, 9);
        }
        return x;
    }

    private void hours() {
        TwoElbows x = Scene.of(111, 222);
        c.same(5, "hours(0, 23, 1)", x.hours(0, 23, 1), 24);
        c.same(5, "hours(0, 508, 2)", x.hours(0, 508, 2), 4);
        c.same(5, "hours(0, 707, 3)", x.hours(0, 707, 3), 1);
        c.same(5, "hours(0, 2323, 0)", x.hours(0, 2323, 0), 1);
        int[] due = {1, 1, 1, 1, 1, 2, 2, 3, 2, 1, 1, 1, 1, 1, 1, 1, 1, 1, 1, 1, 1, 1, 1, 0};
        for (int h = 0; h < 24; h++) {
            c.same(5, "HOUR " + h, x.of(0, 100 + h), due[h]);
            c.same(5, "HOUR " + h + " of another one", x.of(1, 100 + h), 0);
        }
        for (int ft : new int[] {-1, 24, 100, 504, 524, 2324, 2400, 2424, MIN, MAX}) {
            c.same(5, "hours(1, " + ft + ", 0)", x.hours(1, ft, 0), BAD);
        }
        c.same(5, "HOUR 0 alone", x.hours(1, 0, 1), 1);
        c.same(5, "HOUR 0", x.of(1, 100), 1);
        c.same(5, "HOUR 1", x.of(1, 101), 0);
        c.same(5, "how -1", x.hours(1, 0, -1), BAD);
        c.same(5, "how 4", x.hours(1, 0, 4), BAD);
        c.same(5, "sitter -1", x.hours(-1, 0, 0), BAD);
        c.same(5, "sitter 2", x.hours(2, 0, 0), BAD);
        x.go(0, 5);
        c.same(5, "from is past", x.hours(0, 405, 0), STATE);
        c.same(5, "from is past, how 4", x.hours(0, 405, 4), BAD);
        c.same(5, "from is NOW", x.hours(0, 505, 0), 1);
        c.same(5, "a past HOUR stays", x.of(0, 104), 1);
        c.same(5, "NOW's is told", x.of(0, 105), 0);
        x.go(0, 19);
        c.same(5, "none is left", x.hours(0, 2323, 0), STATE);
    }

    private void mend() {
        TwoElbows x = Scene.of(111, 222);
        int[] was = {2, 2, 2, 0, 0};
        for (int what = 0; what < 5; what++) {
            int most = what < 3 ? 9 : 99;
            c.same(6, "mend(1, " + what + ", most)", x.mend(1, what, most), was[what]);
            c.same(6, "mend(1, " + what + ", most + 1)", x.mend(1, what, most + 1), BAD);
            c.same(6, "mend(1, " + what + ", -1)", x.mend(1, what, -1), BAD);
            c.same(6, "of(1, " + what + ")", x.of(1, what), most);
            c.same(6, "mend(1, " + what + ", 0)", x.mend(1, what, 0), most);
            c.same(6, "of(1, " + what + ")", x.of(1, what), 0);
        }
        c.same(6, "what 5", x.mend(1, 5, 1), BAD);
        c.same(6, "what -1", x.mend(1, -1, 1), BAD);
        c.same(6, "sitter 2", x.mend(2, 0, 1), BAD);
        c.same(6, "sitter -1", x.mend(-1, 0, 1), BAD);
        c.same(6, "the other one stays", x.of(0, 0), 1);
        x.go(0, 24);
        c.same(6, "at the end", x.mend(0, 1, 7), 1);
        c.same(6, "PUSH", x.of(0, 1), 7);
    }

    private void of() {
        TwoElbows x = Scene.fought();
        x.mend(0, 3, 33);
        x.mend(0, 4, 44);
        int[] due = {9, 5, 0, 33, 44, 0, 0, 0};
        for (int what = 0; what < 8; what++) c.same(7, "of(0, " + what + ")", x.of(0, what), due[what]);
        x.go(0, 2);
        c.same(7, "inches of 1", x.of(1, 5), 2);
        c.same(7, "COMFORT of 1", x.of(1, 6), 3 + 6);
        x.go(0, 1);
        c.same(7, "inches of 0", x.of(0, 5), 1);
        c.same(7, "COMFORT of 0", x.of(0, 6), 3 - 2);
        c.same(7, "COMFORT of 1", x.of(1, 6), 9 + 3 - 2);
        c.same(7, "YIELDS of 1", x.of(1, 7), 1);
        x.go(0, 2);
        c.same(7, "COMFORT of 0", x.of(0, 6), 1 + 6 - 2 + 6);
        c.same(7, "COMFORT of 1", x.of(1, 6), 10 - 2);
        c.same(7, "YIELDS of 1", x.of(1, 7), 2);
        c.same(7, "YIELDS of 0", x.of(0, 7), 0);
        for (int what : new int[] {-1, 8, 99, 124, MIN, MAX}) c.same(7, "of(0, " + what + ")", x.of(0, what), VOID);
        c.same(7, "of(-1, 0)", x.of(-1, 0), VOID);
        c.same(7, "of(2, 0)", x.of(2, 0), VOID);
        yieldsOnceAnHour();
        comfortEdges();
    }

    private void yieldsOnceAnHour() {
        TwoElbows x = Scene.of(990, 990, 990);
        x.wide(0, 1);
        x.wide(1, 1);
        Scene.law(x, "h<1?m;1-m");
        x.go(0, 1);
        c.same(7, "the middle one holds both rests", x.of(1, 5), 2);
        c.same(12, "two FIGHTS in an HOUR", x.go(0, 1), 2);
        c.same(7, "an HOUR counts once", x.of(1, 7), 1);
        c.same(7, "COMFORT of the middle one", x.of(1, 6), 6 - 4);
        c.same(7, "COMFORT of the wall's", x.of(0, 6), 3 - 2);
    }

    private void comfortEdges() {
        TwoElbows x = Scene.of(150, 930);
        x.go(0, 2);
        c.same(7, "SIZE inches at most", x.of(0, 6), 3 + 3);
        c.same(7, "all inches, though", x.of(0, 5), 2);
        x.mend(0, 0, 0);
        x.go(0, 1);
        c.same(7, "SIZE 0", x.of(0, 6), 6);
        x.mend(0, 0, 9);
        x.hours(0, 303, 2);
        x.go(0, 1);
        c.same(7, "UP", x.of(0, 6), 6);
        c.same(7, "UP holds none", x.of(0, 5), 0);
        x.hours(0, 404, 1);
        x.go(0, 20);
        c.same(7, "COMFORT of the LEFT: ASLEEP once, two FIGHTS", x.of(0, 6), 6 + 1 + 4 + 17 * 6);
        c.same(7, "COMFORT of the RIGHT", x.of(1, 6), 3 + 6 + 1 - 2);
        x = Scene.of(990, 910);
        x.hours(0, 202, 1);
        x.hours(0, 303, 3);
        x.go(0, 3);
        c.same(7, "ASLEEP, with inches", x.of(0, 6), 3 + 6 + 6);
        x.go(0, 1);
        c.same(7, "DRINKS, without", x.of(0, 6), 15);
    }

    private void feed() {
        TwoElbows x = new TwoElbows();
        c.same(8, "feed(-1)", x.feed(-1), BAD);
        c.same(8, "feed(256)", x.feed(256), BAD);
        for (int k = 1; k <= 120; k++) c.same(8, "feed", x.feed(k * 2), k);
        c.same(8, "FULL", x.feed(65), FULL);
        c.same(8, "BAD, and FULL", x.feed(256), BAD);
        c.same(8, "count(4)", x.count(4), 120);
        x.law();
        c.same(8, "count(4)", x.count(4), 0);
        c.same(8, "feed(0)", x.feed(0), 1);
        c.same(8, "feed(255)", x.feed(255), 2);
    }

    private void law() {
        TwoElbows x = Scene.of(150, 230);
        c.same(9, "7", Scene.law(x, "7"), 1);
        c.same(9, "strength", x.strength(0, 0, 0), 7);
        c.same(9, "8+", Scene.law(x, "8+"), -102);
        c.same(9, "a FAULT leaves the law", x.strength(0, 0, 0), 7);
        c.same(9, "and empties THE TAPE", x.count(4), 0);
        c.same(9, "empty", x.law(), -100);
        c.same(9, "the law still", x.strength(0, 0, 0), 7);
        c.same(9, "another one", Scene.law(x, "p"), 1);
        c.same(9, "strength", x.strength(1, 0, 0), 3);
        c.same(9, "120 bytes", Scene.law(x, "1" + Scene.times("+s", 59) + "0"), -219);
        c.same(9, "119 bytes", Scene.law(x, "1" + Scene.times("+s", 59)), 1);
        c.same(9, "strength", x.strength(1, 0, 0), 1 + 59 * 2);
        c.same(9, "120 bytes", Scene.law(x, "10" + Scene.times("+s", 59)), 1);
        c.same(9, "strength", x.strength(0, 0, 0), 10 + 59);
        c.same(9, "120 bytes that end too early", Scene.law(x, Scene.times("s+", 60)), -220);
        c.same(9, "30 LINES", Scene.law(x, Scene.times("0?s;", 29) + "9"), 1);
        c.same(9, "the last one counts", x.strength(0, 0, 0), 9);
        c.same(9, "tight and loose by turns", Scene.law(x, Scene.times("0|1&0<1+1*(", 6) + "2" + Scene.times(")", 6)), 1);
        c.same(9, "strength", x.strength(0, 0, 0), 1);
    }

    private void lawFaults() {
        String[] whole = {"s", "p", "r", "i", "j", "z", "m", "c", "h", "0", "0000", "9999", "!s", "-s", "(s)", "!!!!!!s",
            "------1", "((((((1))))))", "!(-(!(1)))+!(-(!(1)))", "(((((1)))))<(((((2)))))", "s?((((((1))))))", "((((((1))))))?s", "s;((((((1))))))", "s?p;!!!!!!s?------s", "-1--1", "s<p", "s=p&r>1",
            "(s<p)<r", "s<(p<r)", "s<p|p<r&r=s", "s?p", "s?p;r", "s;p;r", "s?p;r?i;j?z", "s<p?s<p", "1+2-3*4/5%6"};
        for (String text : whole) c.same(9, text, Scene.law(new TwoElbows(), text), 1);
        Object[] faulty = {"", 0, "+", 0, " s", 0, "s ", 1, "S", 0, "x", 0, ")", 0, "s)", 1, "()", 1, "(s", 2, "(s;p)", 2,
            "(s?p)", 2, "s(", 1, "sp", 1, "s1", 1, "1s", 1, "12345", 4, "(12345)", 5, "1+12345", 6, "s<p<r", 3, "s<p=r", 3,
            "s=p>r", 3, "1+2<3+4<5", 7, "s<p&p<r<s", 7, "(s<p<r)", 4, "(s<p)<r<s", 7, "s?", 2, "?s", 0, "s?p?r", 3, ";", 0, "s;", 2,
            "s;;p", 2, "s?;p", 2, "s?p;", 4, "s+", 2, "s++p", 2, "s+*p", 2, "s|", 2, "s||p", 2, "s&&p", 2, "s<", 2, "s<=p", 2, "s!p", 1,
            "s!=p", 1, "!", 1, "-", 1, "!!!!!!!s", 6, "-------1", 6, "(((((((1", 6, "!!!---(s", 6, "(!-(!-)", 6, "(!-(!-(", 6,
            "((((((!", 6, "s?(((((((1", 8, "s;!!!!!!!1", 8, "s?p;------!1", 10, "1+((((((-1))))))", 8, "!(!(!(s))+!s)!", 13, "s\0", 1, "s\u00ff", 1, "s?p;r?i;j?z;", 12, "((s)", 4, "s))", 1};
        for (int k = 0; k < faulty.length; k += 2) {
            String text = (String) faulty[k];
            c.same(9, text, Scene.law(new TwoElbows(), text), -100 - (Integer) faulty[k + 1]);
        }
    }

    private void lawWorth() {
        Object[] due = {"1000", 999, "999", 999, "0-1", 0, "-1", 0, "--7", 7, "!0", 1, "!7", 0, "!-!0", 0, "2+3*4", 14, "(2+3)*4", 20,
            "20-5-4", 11, "100/7/2", 7, "100%30%7", 3, "100/7*7", 98, "2*100%30", 20, "7/0", 0, "7%0", 0, "5+7/0", 5, "5+7%0", 5, "5+(3<2)", 5, "5+(3=4)", 5, "5+(3>4)", 5, "5+(0&1)", 5, "5+(0|0)", 5, "5+!3", 5, "100+(0-7)/2", 97,
            "100+(0-7)%4", 97, "-7/2+100", 97, "1|0", 1, "0|0", 0, "5|7", 1, "1&0", 0, "5&7", 1, "0&7", 0, "1|1&0", 1, "2<3", 1, "3<3", 0,
            "3=3", 1, "3=4", 0, "4>3", 1, "3>3", 0, "1+2<2+2", 1, "5&3<2", 0, "5|3<2", 1, "10*(2<3)", 10, "!2+3", 3, "-2+5", 3, "-2*-3", 6,
            "10--3", 13, "9999*9999*9999>0", 0, "9999*9999*100<0", 0, "9999*9999*30<0", 1, "0?5;6", 6, "1?5;6", 5, "2?5;6", 5, "0-1?5;6", 5, "0?5;0?6", 0,
            "0?5;0?6;7", 7, "5;6", 5, "0;6", 0, "1?0;6", 0, "0?1;2;3", 2, "s", 1, "p", 5, "r", 8, "i", 0, "j", 0, "z", 0, "m", 0, "c", 42, "h", 0,
            "0?1+2*3|4;1?2+3*4", 14};
        for (int k = 0; k < due.length; k += 2) {
            String text = (String) due[k];
            TwoElbows x = Scene.of(158, 230);
            c.same(9, text, Scene.law(x, text), 1);
            c.same(9, "strength by " + text, x.strength(0, 0, 42), (Integer) due[k + 1]);
        }
        names();
    }

    private void names() {
        TwoElbows x = inches(4, 3);
        x.hours(1, 723, 1);
        Scene.law(x, "i*100+j*10+z");
        c.same(9, "i, j, z of the LEFT", x.strength(0, 0, 0), 430);
        c.same(9, "i, j, z of the RIGHT", x.strength(1, 0, 0), 341);
        Scene.law(x, "h*10+c");
        c.same(9, "h and c", x.strength(0, 0, 9), 79);
        x = Scene.of(111, 111, 111);
        Scene.law(x, "m+5");
        c.same(9, "m at the wall", x.strength(0, 0, 0), 5);
        c.same(9, "m in the middle", x.strength(1, 0, 0), 6);
        c.same(9, "m in the middle", x.strength(1, 1, 0), 6);
        c.same(9, "m at the aisle", x.strength(2, 1, 0), 5);
    }

    private void rest() {
        TwoElbows x = inches(4, 3);
        c.same(10, "WIDE", x.rest(0, 0), 9);
        c.same(10, "LEFT's", x.rest(0, 1), 4);
        c.same(10, "RIGHT's", x.rest(0, 2), 3);
        c.same(10, "FREE", x.rest(0, 3), 2);
        c.same(10, "WIDE of any", x.rest(0, 4), 9);
        c.same(10, "what 5", x.rest(0, 5), BAD);
        c.same(10, "what -1", x.rest(0, -1), BAD);
        for (int what = 0; what < 4; what++) c.same(10, "a rest that is not there", x.rest(1, what), BAD);
        c.same(10, "WIDE of one that is not there", x.rest(1, 4), 2);
        c.same(10, "WIDE of the last one", x.rest(6, 4), 2);
        c.same(10, "what 5 of it", x.rest(6, 5), BAD);
        for (int what = 0; what < 5; what++) {
            c.same(10, "rest -1", x.rest(-1, what), BAD);
            c.same(10, "rest 7", x.rest(7, what), BAD);
        }
    }

    private void strength() {
        TwoElbows x = Scene.of(140, 250, 360);
        c.same(11, "strength(0, 0, 0)", x.strength(0, 0, 0), 8);
        c.same(11, "strength(1, 0, 99)", x.strength(1, 0, 99), 10);
        c.same(11, "strength(1, 1, 50)", x.strength(1, 1, 50), 10);
        c.same(11, "strength(2, 1, 50)", x.strength(2, 1, 50), 12);
        int[][] bad = {{0, 1, 0}, {2, 0, 0}, {0, -1, 0}, {2, 2, 0}, {3, 2, 0}, {-1, 0, 0}, {0, 0, -1}, {0, 0, 100}, {MIN, MAX, 0}};
        for (int[] b : bad) c.same(11, "strength " + b[0] + ", " + b[1] + ", " + b[2], x.strength(b[0], b[1], b[2]), BAD);
        x.go(0, 1);
        c.same(11, "with an inch", x.strength(2, 1, 0), 13);
        c.same(11, "with an inch of another REST alone", x.strength(1, 1, 0), 10);
        x.hours(2, 101, 1);
        c.same(11, "ASLEEP: half, cut", x.strength(2, 1, 0), 6);
        x.hours(2, 101, 2);
        c.same(11, "UP", x.strength(2, 1, 0), BAD);
        c.same(11, "beside one who is UP", x.strength(1, 1, 0), 10);
        x.hours(2, 101, 3);
        c.same(11, "DRINKS", x.strength(2, 1, 0), BAD);
        x.hours(2, 202, 3);
        x.hours(2, 101, 0);
        c.same(11, "AWAKE NOW", x.strength(2, 1, 0), 13);
        x.go(0, 23);
        c.same(11, "NOW 24", x.strength(0, 0, 0), BAD);
        Scene.law(x, "5");
        c.same(11, "NOW 24", x.strength(0, 0, 0), BAD);
    }
}
