/** The smallest, the largest, none, all, and what wraps around: that each is taken as the document says. */
final class EdgesTest {
    private static final int BAD = -1, NOT = -2, FULL = -3, STATE = -5;
    private static final int MAX = Integer.MAX_VALUE, MIN = Integer.MIN_VALUE;
    private static final int UP = 2, DRINKS = 3;
    private final Checks c;

    EdgesTest(Checks checks) {
        c = checks;
    }

    void runAll() {
        restsThatAreThere();
        oneToEightFromARow();
        elementsOfSitters();
        rowsThatEnd();
        fullWithinARow();
        widths();
        widthsOfHeldInches();
        hoursTold();
        traits();
        tape();
        lines();
        numbers();
        open();
        intsThatWrap();
        heldWithin();
        withoutAText();
        namesAtTheirEnds();
        lastInch();
        noWidth();
        prideAtItsEnds();
        freeAheadOfFights();
        comfortAtSize();
        comfortBelowNone();
        lastHour();
        seedsThatWrap();
        thenAtItsEnds();
        quietAtItsEnds();
        eightSeats();
        bothAtItsEnds();
        dealsAtTheirEnds();
        judgeAtTheEnd();
        matchAtItsEnds();
        imagesAtTheEnds();
        changesAtForty();
        lastBody();
        actsThatWrap();
        traceAtItsEnds();
        shelvesAndRows();
        lowestBits();
        shiftsOfAll();
        lastCall();
    }

    private void restsThatAreThere() {
        for (int n = 0; n <= 8; n++) {
            TwoElbows x = new TwoElbows();
            for (int s = 0; s < n; s++) c.same(2, "sitter " + s, x.sitter(999), s);
            c.same(37, n + " SITTERS", x.count(0), n);
            c.same(37, "RESTS of " + n, x.count(1), Math.max(0, n - 1));
            for (int rest = 0; rest < 7; rest++) {
                boolean there = rest + 1 < n;
                c.same(10, "WIDE at first", x.rest(rest, 0), there ? 2 : BAD);
                c.same(10, "LEFT's at first", x.rest(rest, 1), there ? 0 : BAD);
                c.same(10, "RIGHT's at first", x.rest(rest, 2), there ? 0 : BAD);
                c.same(10, "all FREE at first", x.rest(rest, 3), there ? 2 : BAD);
                c.same(10, "WIDE of any", x.rest(rest, 4), 2);
                c.same(11, "the LEFT's strength", x.strength(rest, rest, 0), there ? 18 : BAD);
                c.same(11, "the RIGHT's strength", x.strength(rest + 1, rest, 99), there ? 18 : BAD);
                c.same(20, "WIDER", x.wider(0, rest), there ? 0 : BAD);
                c.same(21, "BOTH", x.both(rest, 1), there ? 2 : BAD);
                c.same(22, "DEALS", x.deals(rest, 1), there ? 0 : TwoElbows.VOID);
                c.same(23, "SOLD", x.sell(rest), there ? 0 : BAD);
            }
            for (int s = 0; s < 8; s++) c.same(18, "SEAT of " + s + " of " + n, x.seat(0, s), s < n ? s : BAD);
            c.same(12, "go", x.go(0, 1), 0);
            for (int rest = 0; rest < 7; rest++) c.same(13, "LED", x.led(rest, 2), rest + 1 < n ? 0 : BAD);
        }
    }

    private static TwoElbows withRow(int length) {
        TwoElbows x = new TwoElbows();
        x.row(0, 0, length);
        return x;
    }

    private void oneToEightFromARow() {
        for (int n = 1; n <= 8; n++) {
            TwoElbows x = withRow(60);
            c.same(3, n + " from a long row", x.sitters(0, 0, n), n);
            c.same(3, "SITTERS", x.count(0), n);
            c.same(3, "as many as are so long", withRow(3 * n).sitters(0, 0, n), n);
            c.same(3, "one element less", withRow(3 * n - 1).sitters(0, 0, n), n - 1);
            c.same(3, "two elements less", withRow(3 * n - 2).sitters(0, 0, n), n - 1);
            c.same(3, "three elements less", withRow(3 * n - 3).sitters(0, 0, n), n - 1);
            c.same(3, "all from place 1 on", withRow(3 * n + 1).sitters(0, 1, n), n);
        }
    }

    private void elementsOfSitters() {
        long[] good = {0, 9, 256, 265, -256, 1L << 40};
        long[] wrong = {-1, 10, 127, -128, 128, 255, 266, Long.MAX_VALUE};
        for (int place = 0; place < 6; place++) {
            for (long v : good) {
                TwoElbows x = withRow(6);
                x.put(0, place, v);
                c.same(3, v + " at " + place, x.sitters(0, 0, 2), 2);
                c.same(3, "what came of " + v, x.of(place / 3, place % 3), (byte) v);
            }
            for (long v : wrong) {
                TwoElbows x = withRow(6);
                x.put(0, place, v);
                c.same(3, v + " at " + place, x.sitters(0, 0, 2), place / 3);
                c.same(3, "those ahead came", x.count(0), place / 3);
            }
        }
    }

    private void rowsThatEnd() {
        int[][] due = {{57, 1}, {58, 0}, {59, 0}, {60, 0}, {61, 0}, {54, 2}, {55, 1}, {56, 1}, {36, 8}, {37, 7}, {-1, 0}, {MAX, 0}, {MIN, 0}};
        for (int[] d : due) c.same(3, "from place " + d[0] + " of 60", withRow(60).sitters(0, d[0], 8), d[1]);
        c.same(3, "a row of none", withRow(0).sitters(0, 0, 1), 0);
        c.same(3, "a row of three, from -1", withRow(3).sitters(0, -1, 1), 0);
        for (int shelf = 0; shelf < 6; shelf++) {
            TwoElbows x = new TwoElbows();
            c.same(3, "a missing row", x.sitters(shelf, 0, 8), 0);
            x.row(shelf, 0, 3);
            c.same(3, "shelf " + shelf, x.sitters(shelf, 0, 8), 1);
            x.keep(shelf, -1);
            c.same(3, "a missing row again", x.sitters(shelf, 0, 8), 0);
        }
    }

    private void fullWithinARow() {
        for (int ahead = 0; ahead <= 8; ahead++) {
            for (int n = 1; n <= 8; n++) {
                TwoElbows x = withRow(60);
                for (int s = 0; s < ahead; s++) x.sitter(111);
                c.same(3, n + " behind " + ahead, x.sitters(0, 0, n), Math.min(n, 8 - ahead));
                c.same(3, "SITTERS", x.count(0), Math.min(ahead + n, 8));
                c.same(2, "one more", x.sitter(0), ahead + n < 8 ? ahead + n : FULL);
            }
        }
    }

    private void widths() {
        TwoElbows x = Scene.of(111, 111);
        for (int rest = 0; rest < 7; rest++) {
            int was = 2;
            for (int v : new int[] {9, 0, 0, 1, 9}) {
                c.same(4, "wide(" + rest + ", " + v + ")", x.wide(rest, v), was);
                c.same(4, "WIDE", x.rest(rest, 4), v);
                was = v;
            }
            c.same(4, "one beyond", x.wide(rest, 10), BAD);
            c.same(4, "one below", x.wide(rest, -1), BAD);
            c.same(4, "WIDE as it was", x.rest(rest, 4), 9);
        }
        x.sitter(111);
        c.same(4, "told ahead of its sitters", x.rest(1, 0), 9);
        c.same(4, "all FREE", x.rest(1, 3), 9);
    }

    private void widthsOfHeldInches() {
        for (int left = 0; left <= 9; left++) {
            for (int v = 0; v <= 9; v++) {
                TwoElbows x = SittersTest.inches(left, 9 - left);
                c.same(4, "wide", x.wide(0, v), 9);
                c.same(4, left + " of the LEFT's in " + v, x.rest(0, 1), Math.min(left, v));
                c.same(4, "the RIGHT's in " + v, x.rest(0, 2), Math.max(0, v - left));
                c.same(4, "FREE", x.rest(0, 3), 0);
            }
        }
    }

    private void hoursTold() {
        TwoElbows x = Scene.eight();
        for (int how = 0; how < 4; how++) {
            c.same(5, "all HOURS", x.hours(7, 23, how), 24);
            for (int hour = 0; hour < 24; hour++) c.same(7, "HOUR " + hour, x.of(7, 100 + hour), how);
            c.same(5, "the first alone", x.hours(0, 0, how), 1);
            c.same(5, "the last alone", x.hours(0, 2323, how), 1);
            c.same(5, "the last two", x.hours(1, 2223, how), 2);
            c.same(7, "HOUR 0", x.of(0, 100), how);
            c.same(7, "HOUR 1", x.of(0, 101), 0);
            c.same(7, "HOUR 22", x.of(0, 122), 0);
            c.same(7, "HOUR 23", x.of(0, 123), how);
            c.same(7, "HOUR 21 of 1", x.of(1, 121), 0);
            c.same(7, "HOUR 22 of 1", x.of(1, 122), how);
        }
        for (int now = 1; now <= 24; now++) {
            x.go(0, 1);
            c.same(5, "behind NOW " + now, x.hours(2, 100 * now - 77, 1), STATE);
            c.same(5, "the whole day", x.hours(2, 23, 1), STATE);
            if (now < 24) c.same(5, "from NOW " + now + " on", x.hours(2, 100 * now + 23, 1), 24 - now);
        }
    }

    private void traits() {
        TwoElbows x = Scene.of(0, 999);
        for (int what = 0; what < 3; what++) {
            c.same(7, "the least", x.of(0, what), 0);
            c.same(7, "the most", x.of(1, what), 9);
            c.same(6, "the least to the most", x.mend(0, what, 9), 0);
            c.same(6, "the most to the least", x.mend(1, what, 0), 9);
            c.same(6, "beyond", x.mend(0, what, 10), BAD);
            c.same(7, "as it was", x.of(0, what), 9);
        }
        for (int what = 3; what < 5; what++) {
            c.same(6, "more than 9", x.mend(0, what, 10), 0);
            c.same(6, "the most", x.mend(0, what, 99), 10);
            c.same(6, "beyond", x.mend(0, what, 100), BAD);
            c.same(7, "as it was", x.of(0, what), 99);
        }
    }

    private void tape() {
        TwoElbows x = new TwoElbows();
        c.same(9, "no bytes at all", x.law(), -100);
        for (int k = 1; k <= 119; k++) x.feed('0');
        c.same(8, "the last byte", x.feed('0'), 120);
        c.same(8, "one more", x.feed('0'), FULL);
        c.same(37, "bytes", x.count(4), 120);
        c.same(9, "a FAULT at 4", x.law(), -104);
        c.same(8, "the first again", x.feed('0'), 1);
        c.same(9, "one byte", x.law(), 1);
        for (int letter : new int[] {0, 255}) {
            c.same(8, "byte " + letter, x.feed(letter), 1);
            c.same(9, "is no TEXT", x.law(), -100);
        }
        c.same(9, "a FAULT of the last byte", Scene.law(x, Scene.times("s+", 59) + "s)"), -219);
        c.same(9, "and of the last but one", Scene.law(x, Scene.times("s+", 59) + ")s"), -218);
    }

    private void lines() {
        TwoElbows x = Scene.of(150, 230);
        c.same(9, "60 LINES", Scene.law(x, Scene.times("0;", 59) + "07"), 1);
        c.same(9, "the first without a first E counts", x.strength(0, 0, 0), 0);
        c.same(9, "30 LINES", Scene.law(x, Scene.times("0?1;", 29) + "0?2"), 1);
        c.same(9, "none counts: 0", x.strength(0, 0, 0), 0);
        c.same(9, "30 LINES", Scene.law(x, Scene.times("0?1;", 29) + "!0?2"), 1);
        c.same(9, "the last counts", x.strength(0, 0, 0), 2);
        c.same(9, "one LINE that does not count", Scene.law(x, "0?7"), 1);
        c.same(9, "none: 0", x.strength(0, 0, 0), 0);
        c.same(9, "a first E below 0 is not 0", Scene.law(x, "-1?7;8"), 1);
        c.same(9, "it counts", x.strength(0, 0, 0), 7);
        c.same(9, "one that wraps to 0", Scene.law(x, "256*256*256*256?7;8"), 1);
        c.same(9, "it is 0", x.strength(0, 0, 0), 8);
        c.same(12, "without one that counts, as many: nothing", Scene.law(x, "0?7") + x.go(0, 24) + x.rest(0, 3), 3);
    }

    private void numbers() {
        TwoElbows x = Scene.of(150, 230);
        Object[] due = {"0", 0, "9", 9, "10", 10, "998", 998, "0998", 998, "0009", 9, "0000", 0, "9999/9999", 1, "9999-9000", 999};
        for (int k = 0; k < due.length; k += 2) {
            c.same(9, (String) due[k], Scene.law(x, (String) due[k]), 1);
            c.same(9, "its worth", x.strength(0, 0, 0), (Integer) due[k + 1]);
        }
        c.same(9, "five digits", Scene.law(x, "00000"), -104);
        c.same(9, "five digits behind", Scene.law(x, "1234+56789"), -109);
        c.same(9, "five digits of the second E", Scene.law(x, "1?12345"), -106);
        c.same(9, "five digits of the second LINE", Scene.law(x, "1234;12345"), -109);
    }

    /** Six of ( ! - may be open ahead of an O, in any order; the seventh is a FAULT where it stands. */
    private void open() {
        for (int kinds = 0; kinds < 729; kinds++) {
            StringBuilder ahead = new StringBuilder();
            StringBuilder behind = new StringBuilder();
            for (int n = kinds, k = 0; k < 6; k++, n /= 3) {
                ahead.append("(!-".charAt(n % 3));
                if (n % 3 == 0) behind.append(')');
            }
            c.same(9, ahead + "1", Scene.law(new TwoElbows(), ahead + "1" + behind), 1);
            char seventh = "(!-".charAt(kinds % 3);
            c.same(9, "one more", Scene.law(new TwoElbows(), ahead.toString() + seventh + "1)" + behind), -106);
            c.same(9, "none behind them", Scene.law(new TwoElbows(), ahead.toString()), -106);
            c.same(9, "six again behind", Scene.law(new TwoElbows(), ahead + "1" + behind + "*" + ahead + "c" + behind), 1);
        }
        c.same(9, "closed within: one open still", Scene.law(new TwoElbows(), "((((((1))))+(((1))))+!1)"), 1);
        c.same(9, "a seventh within", Scene.law(new TwoElbows(), "((((((1))))+((((1)))))+!1)"), 1);
        c.same(9, "a seventh within", Scene.law(new TwoElbows(), "((((((1))))+(((((1))))))+!1)"), -116);
        c.same(9, "none is open behind an O with !", Scene.law(new TwoElbows(), "(((((!1+!1+!1-!1)))))"), 1);
        c.same(9, "nor behind one with -", Scene.law(new TwoElbows(), "(((((-1--1--1*-1)))))"), 1);
    }

    private void intsThatWrap() {
        String least = "2048*1024*1024";
        Object[] due = {least + "<0", 1, least + "-1>0", 1, least + "=-(" + least + ")", 1, least + "/-1=" + least, 1, least + "%-1=0", 1,
            "(" + least + "-1)/1000/1000", 999, least + "/1000/1000+2147+5", 5, "(9999*9999*9999+1027*1000*1000)/-1000", 349,
            "-7/2=-3", 1, "-7%2=-1", 1, "7/-2=-3", 1, "7%-2=1", 1, "-7/-2=3", 1, "-7%-2=-1", 1, "5/0", 0, "5%0", 0, "0/0", 0, "0%0", 0,
            "-5/0=0", 1, least + "/0=0", 1, least + "%0=0", 1, "1024*1024*4096", 0, least + "+" + least, 0,
            "9+(" + least + "<" + least + "-1)", 10, "9+(!(" + least + "))", 9, "9+(" + least + "&1)", 10, "9+(0|" + least + ")", 10,
            "3<2=0", -103, "1/0+7", 7, "0&1/0", 0, "1|1/0", 1};
        for (int k = 0; k < due.length; k += 2) {
            TwoElbows x = Scene.of(150, 230);
            int worth = (Integer) due[k + 1];
            c.same(9, (String) due[k], Scene.law(x, (String) due[k]), worth < -100 ? worth : 1);
            if (worth >= -100) c.same(11, "strength by " + due[k], x.strength(0, 0, 0), worth);
        }
    }

    private void heldWithin() {
        Object[] due = {"999", 999, "1000", 999, "9999", 999, "998+1", 999, "999+1", 999, "0", 0, "-1", 0, "1-1", 0, "0-999", 0,
            "2048*1024*1024", 0, "2048*1024*1024-1", 999, "1?1000;5", 999, "1?0-5;5", 0, "(0-5)*(0-5)", 25, "1000-1", 999};
        for (int k = 0; k < due.length; k += 2) {
            TwoElbows x = Scene.of(150, 230);
            Scene.law(x, (String) due[k]);
            c.same(11, "strength by " + due[k], x.strength(0, 0, 0), (Integer) due[k + 1]);
        }
        TwoElbows x = Scene.of(950, 930);
        Scene.law(x, "p=5?2000;1000");
        x.go(0, 24);
        c.same(12, "both are held at 999: as many", x.rest(0, 3), 2);
        Scene.law(x, "p=5?0-1;0-2");
        c.same(11, "both are held at 0", x.count(2), 24);
        x = Scene.of(950, 930);
        Scene.law(x, "p=5?0-1;0-2");
        x.go(0, 24);
        c.same(12, "both are held at 0: as many", x.rest(0, 3), 2);
    }

    private void withoutAText() {
        for (int push = 0; push <= 9; push += 9) {
            TwoElbows x = Scene.of(900 + 10 * push, 900);
            x.wide(0, 9);
            x.hours(1, 23, UP);
            for (int held = 0; held <= 9; held++) {
                c.same(11, "AWAKE with " + held, x.strength(0, 0, 0), 2 * push + held);
                x.hours(0, 101 * held, 1);
                c.same(11, "ASLEEP with " + held + ", cut", x.strength(0, 0, 99), (2 * push + held) / 2);
                x.go(0, 1);
            }
        }
    }

    private void namesAtTheirEnds() {
        TwoElbows x = Scene.of(0, 999);
        for (String name : new String[] {"s", "p", "r"}) {
            Scene.law(x, name + "+5");
            c.same(11, name + " least", x.strength(0, 0, 0), 5);
            c.same(11, name + " most", x.strength(1, 0, 0), 14);
        }
        Scene.law(x, "c+5");
        c.same(11, "COUGH 0", x.strength(0, 0, 0), 5);
        c.same(11, "COUGH 99", x.strength(0, 0, 99), 104);
        Scene.law(x, "h+5");
        for (int now = 0; now < 24; now++) {
            c.same(11, "HOUR " + now, x.strength(1, 0, 0), now + 5);
            x.go(0, 1);
        }
        c.same(11, "no HOUR 24", x.strength(1, 0, 0), BAD);
        x = SittersTest.inches(0, 9);
        Scene.law(x, "i*10+j+100");
        c.same(11, "none, and all of the other one", x.strength(0, 0, 0), 109);
        c.same(11, "all, and none of the other one", x.strength(1, 0, 0), 190);
        for (int n = 2; n <= 8; n++) {
            x = new TwoElbows();
            for (int s = 0; s < n; s++) x.sitter(555);
            Scene.law(x, "m");
            for (int s = 0; s < n; s++) c.same(11, "m of " + s, x.strength(s, Math.max(0, s - 1), 0), s > 0 && s < n - 1 ? 1 : 0);
        }
        Scene.law(x, "z");
        x.hours(3, 0, 1);
        c.same(11, "z ASLEEP", x.strength(3, 3, 0), 1);
        c.same(11, "z AWAKE", x.strength(4, 3, 0), 0);
    }

    /** One FREE inch an HOUR, till there is none. */
    private void lastInch() {
        for (int v = 0; v <= 9; v++) {
            TwoElbows x = Scene.of(950, 930);
            x.wide(0, v);
            TwoElbows alone = Scene.of(950, 930);
            alone.wide(0, v);
            alone.hours(0, 23, UP);
            for (int hour = 0; hour < 12; hour++) {
                c.same(12, "no FIGHT", x.go(0, 1) + alone.go(0, 1), 0);
                c.same(12, "the stronger's of " + v, x.rest(0, 1), Math.min(v, hour + 1));
                c.same(12, "who is alone", alone.rest(0, 2), Math.min(v, hour + 1));
            }
            c.same(12, "no FREE one", x.rest(0, 3) + alone.rest(0, 3), 0);
            alone.hours(0, 1223, 0);
            alone.hours(1, 1223, DRINKS);
            alone.go(0, 1);
            c.same(12, "all left, one taken", alone.rest(0, 1), Math.min(1, v));
            c.same(12, "those that are FREE", alone.rest(0, 3), Math.max(0, v - 1));
        }
    }

    private void noWidth() {
        TwoElbows x = Scene.of(999, 900);
        x.wide(0, 0);
        c.same(17, "QUIET", x.quiet(0), 0);
        c.same(12, "FIGHTS", x.go(0, 24), 0);
        c.same(10, "inches", x.rest(0, 1) + x.rest(0, 2) + x.rest(0, 3), 0);
        c.same(7, "COMFORT", x.of(0, 6) + x.of(1, 6), 0);
    }

    /** The RIGHT one holds both inches; strengths then differ by d. A FIGHT needs more than its PRIDE. */
    private void prideAtItsEnds() {
        for (int pride = 0; pride <= 9; pride++) {
            for (int d = pride - 1; d <= pride + 1; d++) {
                TwoElbows x = Scene.of(950, 930 + pride);
                Scene.law(x, "h<2?(p=3)*9;(p=5)*" + Math.max(0, d) + "+7");
                x.go(0, 2);
                c.same(12, "strengths that differ by " + d + ", PRIDE " + pride, x.go(0, 1), d > pride ? 1 : 0);
                c.same(12, "inches wrested", x.rest(0, 1), d > pride ? 1 : 0);
                c.same(7, "YIELDS", x.of(1, 7), d > pride ? 1 : 0);
            }
        }
    }

    private void freeAheadOfFights() {
        TwoElbows x = Scene.of(950, 930);
        x.wide(0, 3);
        Scene.law(x, "h<2?(p=3)*9;(p=5)*900");
        x.go(0, 2);
        c.same(12, "a FREE one is there: no FIGHT", x.go(0, 1), 0);
        c.same(12, "it is taken", x.rest(0, 1), 1);
        c.same(12, "none is: a FIGHT", x.go(0, 1), 1);
        c.same(12, "and another", x.go(0, 1), 1);
        c.same(12, "the other one has none: no FIGHT", x.go(0, 1), 0);
        c.same(12, "all", x.rest(0, 1), 3);
    }

    private void comfortAtSize() {
        for (int size = 0; size <= 9; size++) {
            TwoElbows x = Scene.of(100 * size + 50, 0);
            x.wide(0, 9);
            int sum = 0;
            for (int held = 1; held <= 9; held++) {
                x.go(0, 1);
                sum += 3 * Math.min(held, size);
                c.same(7, "COMFORT with " + held + ", SIZE " + size, x.of(0, 6), sum);
                c.same(7, "inches", x.of(0, 5), held);
            }
        }
        TwoElbows x = Scene.of(0, 350, 0);
        x.go(0, 2);
        c.same(7, "of both RESTS, SIZE 3 at most", x.of(1, 6), 3 * 2 + 3 * 3);
        c.same(7, "all four", x.of(1, 5), 4);
    }

    /** The middle one wrests an inch of each neighbour each HOUR: COMFORT below 0 is told as it is. */
    private void comfortBelowNone() {
        TwoElbows x = Scene.of(900, 0, 900);
        Scene.law(x, "h<2?!m;m*9");
        x.go(0, 2);
        c.same(12, "two FIGHTS", x.go(0, 1), 2);
        c.same(7, "SIZE 0 and two FIGHTS", x.of(1, 6), -4);
        c.same(7, "one inch and a FIGHT", x.of(0, 6), 3 + 6 + 1);
        c.same(12, "two FIGHTS", x.go(0, 1), 2);
        c.same(7, "none and a FIGHT", x.of(0, 6), 10 - 2);
        c.same(7, "YIELDS", x.of(0, 7) + 10 * x.of(1, 7) + 100 * x.of(2, 7), 202);
        c.same(16, "COMFORT that comes", x.then(0, 20, 1, 1), 0);
        c.same(7, "COMFORT so far", x.of(1, 6), -8);
    }

    private void lastHour() {
        TwoElbows x = Scene.fought();
        c.same(12, "24 HOURS", x.go(0, 24), 2);
        c.same(37, "NOW", x.count(2), 24);
        c.same(12, "no more", x.go(0, 1), STATE);
        x = Scene.of(950, 930);
        x.hours(1, 2323, DRINKS);
        Scene.law(x, "p-4");
        for (int now = 0; now < 24; now++) {
            c.same(12, "one more than are left", x.go(0, 25 - now), now == 0 ? BAD : STATE);
            c.same(12, "one", x.go(0, 1), 0);
            c.same(13, "LED of it", x.led(10 * now, 0), Math.min(now + 1, 2));
            c.same(13, "LED of the next", x.led(10 * now + 10, 0), BAD);
        }
        for (int now = 0; now <= 24; now++) {
            x = Scene.of(950, 930);
            if (now > 0) x.go(0, now);
            if (now < 24) c.same(12, "all that are left", x.go(0, 24 - now), 0);
            c.same(37, "NOW", x.count(2), 24);
        }
    }

    private void seedsThatWrap() {
        for (int seed : new int[] {0, 1, -1, MAX, MIN, 255, 256, 1 << 30, 99, 100}) {
            TwoElbows x = Scene.of(950, 950);
            Scene.law(x, "c");
            x.wide(0, 1);
            int a = seed * 1103515245 + 12345;
            int b = a * 1103515245 + 12345;
            int left = (a >>> 8) % 100;
            int right = (b >>> 8) % 100;
            c.same(16, "in thought by " + seed, x.then(seed, 1, 0, 0), left > right ? 1 : 0);
            x.go(seed, 1);
            c.same(12, "the LEFT's by " + seed, x.rest(0, 1), left > right ? 1 : 0);
            c.same(12, "the RIGHT's by " + seed, x.rest(0, 2), right > left ? 1 : 0);
            seedGoesOn(seed);
        }
    }

    /** The draws go on within one call, and begin anew with the next. */
    private void seedGoesOn(int seed) {
        TwoElbows once = Scene.of(950, 950);
        TwoElbows twice = Scene.of(950, 950);
        Scene.law(once, "c");
        Scene.law(twice, "c");
        once.wide(0, 9);
        twice.wide(0, 9);
        once.go(seed, 3);
        for (int k = 0; k < 3; k++) twice.go(seed, 1);
        int z = seed;
        int first = 0;
        int held = 0;
        for (int hour = 0; hour < 3; hour++) {
            z = z * 1103515245 + 12345;
            int left = (z >>> 8) % 100;
            z = z * 1103515245 + 12345;
            if (left > (z >>> 8) % 100) held++;
            if (hour == 0) first = held;
        }
        c.same(12, "three HOURS by " + seed, once.rest(0, 1), held);
        c.same(12, "three times one HOUR by " + seed, twice.rest(0, 1), 3 * first);
    }

    private void thenAtItsEnds() {
        TwoElbows x = Scene.fought();
        int[] fights = {0, 0, 0, 1, 2};
        for (int now = 0; now <= 24; now++) {
            int left = 24 - now;
            c.same(16, "no HOURS", x.then(0, 0, -1, 0), 0);
            c.same(16, "no HOURS: inches NOW", x.then(0, 0, 1, 0), x.of(1, 5));
            c.same(16, "no HOURS: no COMFORT comes", x.then(0, 0, 1, 1), 0);
            c.same(16, "all that are left", x.then(0, left, -1, 0), 2 - fights[Math.min(now, 4)]);
            c.same(16, "one more", x.then(0, left + 1, -1, 0), left == 24 ? TwoElbows.VOID : STATE);
            c.same(16, "one less than none", x.then(0, -1, -1, 0), TwoElbows.VOID);
            if (now < 24) x.go(0, 1);
        }
    }

    private void quietAtItsEnds() {
        for (int hour = 0; hour < 24; hour++) {
            TwoElbows x = Scene.of(950, 930);
            x.hours(0, 23, UP);
            x.hours(1, 23, UP);
            x.hours(0, 101 * hour, 0);
            // The one that comes takes an inch in this HOUR and leaves it in the next.
            c.same(17, "taken in " + hour, x.quiet(0), hour == 23 ? NOT : hour == 22 ? NOT : hour + 2);
            if (hour > 0) x.go(0, hour);
            c.same(17, "taken NOW, left in the next", x.quiet(0), hour >= 22 ? NOT : hour + 2);
            x.go(0, 1);
            c.same(17, "left NOW", x.quiet(0), hour == 23 ? 24 : hour == 22 ? NOT : hour + 2);
            if (hour < 23) {
                x.go(0, 1);
                c.same(17, "from NOW on", x.quiet(0), hour + 2);
            }
        }
        TwoElbows x = Scene.of(950, 930);
        x.wide(0, 9);
        for (int now = 0; now <= 24; now++) {
            c.same(17, "nine are taken", x.quiet(0), Math.max(now, 9));
            if (now < 24) x.go(0, 1);
        }
        x = Scene.of(955, 955);
        for (int now = 0; now <= 24; now++) {
            c.same(17, "none is moved", x.quiet(0), now);
            if (now < 24) x.go(0, 1);
        }
    }

    /**
     * Only the rests 5 and 6 have inches; 6, strong but of SIZE 0, and 7 are there, all others are UP. In the seat of
     * 6, 7 would have the three inches of rest 5; without 6 at its side it has the two of rest 6.
     */
    private void eightSeats() {
        TwoElbows x = Scene.of(999, 999, 999, 999, 999, 999, 90, 900);
        for (int s = 0; s < 6; s++) x.hours(s, 23, UP);
        for (int rest = 0; rest < 5; rest++) x.wide(rest, 0);
        x.wide(5, 3);
        c.same(19, "CHANGE", x.change(0), 67);
        for (int s = 0; s < 7; s++) c.same(18, "UP, or SIZE 0: its own", x.seat(0, s), s);
        c.same(18, "SEAT of 7", x.seat(0, 7), 6);
        x.wide(5, 2);
        c.same(19, "of like ones the first pair", x.change(0), 6);
        x = Scene.of(900, 999, 999, 999, 999, 999, 999, 90);
        for (int s = 1; s < 7; s++) x.hours(s, 23, UP);
        for (int rest = 0; rest < 6; rest++) x.wide(rest, 0);
        c.same(18, "the last SEAT for the first one", x.seat(0, 0), 7);
        c.same(19, "CHANGE", x.change(0), 7);
        x.go(0, 23);
        c.same(18, "SEAT in the last HOUR: inches stay", x.seat(0, 0), 7);
        x.go(0, 1);
        c.same(18, "SEAT at the end: its own", x.seat(0, 0), 0);
        c.same(19, "CHANGE at the end", x.change(0), NOT);
    }

    private void bothAtItsEnds() {
        for (int a = 0; a <= 9; a++) {
            for (int b = 0; b <= 9; b++) {
                TwoElbows x = Scene.of(100 * a, 100 * b);
                x.wide(0, 0);
                c.same(21, "l of none", x.both(0, 0), 0);
                c.same(21, "the sum of none", x.both(0, 1), 0);
                x.wide(0, 9);
                c.same(21, "the sum of nine for " + a + " and " + b, x.both(0, 1), Math.min(9, a + b));
                // Half of what is there for each, as far as both can use it: the least such l.
                int l = a + b >= 9 ? Math.max(9 - b, Math.min(a, 4)) : a;
                c.same(21, "l of nine for " + a + " and " + b, x.both(0, 0), l);
            }
        }
    }

    private void dealsAtTheirEnds() {
        int[][] due = {{0, 0, 0}, {0, 1, 1}, {99, 99, 0}, {98, 99, 1}, {0, 99, 1}, {99, 0, 0}, {1, 0, 0}, {50, 51, 1}, {51, 50, 0}};
        for (int[] d : due) {
            TwoElbows x = SittersTest.inches(9, 0);
            x.mend(0, 3, d[0]);
            x.mend(1, 4, d[1]);
            String of = "ASK " + d[0] + ", OFFER " + d[1] + ": ";
            c.same(22, of + "inches", x.deals(0, 1), 9 * d[2]);
            c.same(22, of + "WORTH", x.deals(0, 0), 9 * d[2] * (d[1] - d[0]));
            c.same(22, of + "the LEFT has", x.deals(0, 2), 9 * d[2] * ((d[0] + d[1]) / 2));
            c.same(23, of + "SOLD", x.sell(0), 9 * d[2]);
            c.same(23, of + "the RIGHT's", x.rest(0, 2), 9 * d[2]);
            x = SittersTest.inches(0, 9);
            x.mend(1, 3, d[0]);
            x.mend(0, 4, d[1]);
            c.same(22, of + "the LEFT pays", x.deals(0, 2), -9 * d[2] * ((d[0] + d[1]) / 2));
            c.same(23, of + "SOLD", x.sell(0), 9 * d[2]);
            c.same(23, of + "the LEFT's", x.rest(0, 1), 9 * d[2]);
        }
        for (int size = 0; size <= 9; size++) {
            TwoElbows x = SittersTest.inches(5, 4);
            x.mend(1, 4, 1);
            x.mend(1, 0, size);
            c.same(22, "the other one holds 4, SIZE " + size, x.deals(0, 1), Math.max(0, size - 4));
            c.same(23, "SOLD", x.sell(0), Math.max(0, size - 4));
            c.same(23, "no more then", x.sell(0), 0);
        }
    }

    private void judgeAtTheEnd() {
        TwoElbows x = Scene.fought();
        x.row(0, 0, 60);
        int[][] led = {{0, 1}, {0, 2}, {1, 1}};
        for (int i = 0; i < 48; i++) x.put(0, i, i < 6 ? led[i / 2][i % 2] : i % 2 == 0 ? 2 : 0);
        for (int i = 48; i < 60; i++) x.put(0, i, 99);
        for (int now = 0; now <= 24; now++) {
            c.same(14, "it goes on behind NOW " + now, x.judge(0, 0), NOT);
            if (now < 24) x.go(0, 1);
        }
        for (int i = 47; i >= 0; i--) {
            long was = x.element(0, i);
            x.put(0, i, was - 1);
            c.same(14, "element " + i + " is not so", x.judge(0, 0), i / 2);
            x.put(0, i, was);
        }
        for (int n : new int[] {0, 1, 2, 6, 47, 48, 49}) {
            x.row(1, 0, n);
            x.shift(0, 0, 1, 0, n);
            c.same(14, "a row of " + n + ", all so", x.judge(1, 0), NOT);
            if (n > 0) x.put(1, n - 1, 77);
            c.same(14, "its last is not so", x.judge(1, 0), n == 0 || n > 48 ? NOT : (n - 1) / 2);
        }
    }

    private void matchAtItsEnds() {
        TwoElbows x = Scene.of(950, 950, 950, 950);
        for (int rest = 0; rest < 3; rest++) x.wide(rest, 9);
        Scene.law(x, "c");
        c.same(15, "NOW 0", x.match(), STATE);
        x.image();
        for (int seed : new int[] {0, 99, 100, -1}) {
            x.go(seed, 24);
            c.same(15, "24 HOURS of " + seed, x.match(), seed == 0 || seed == 99 ? seed : NOT);
            x.back();
            c.same(15, "NOW 0 again", x.match(), STATE);
        }
        x = new TwoElbows();
        x.go(5, 24);
        c.same(15, "nobody", x.match(), 0);
        x = Scene.of(999);
        x.go(5, 1);
        c.same(15, "one", x.match(), 0);
    }

    private void imagesAtTheEnds() {
        TwoElbows x = new TwoElbows();
        c.same(24, "of nothing", x.image(), 0);
        c.same(25, "of nothing", x.back(), 0);
        x.sitter(950);
        x.sitter(930);
        x.go(0, 24);
        c.same(25, "to the first HOUR", x.back(), 0);
        c.same(25, "SITTERS as they are", x.count(0), 2);
        c.same(25, "all FREE", x.rest(0, 3), 2);
        c.same(25, "COMFORT", x.of(0, 6), 0);
        c.same(13, "LED tells none", x.led(0, 0), BAD);
        x.go(0, 24);
        c.same(24, "at the end", x.image(), 24);
        c.same(25, "at the end", x.back(), 24);
        c.same(13, "LED tells all", x.led(230, 0), 2);
        for (int v = 0; v <= 9; v++) {
            for (int left = 0; left <= 9; left++) {
                x = SittersTest.inches(left, 9 - left);
                x.image();
                x.wide(0, v);
                x.wide(0, 9);
                c.same(25, "laid back into nine", x.back(), 9);
                c.same(25, "the LEFT's", x.rest(0, 1), left);
                c.same(25, "the RIGHT's", x.rest(0, 2), 9 - left);
                x.wide(0, v);
                x.back();
                c.same(25, "the LEFT's into " + v, x.rest(0, 1), Math.min(left, v));
                c.same(25, "the RIGHT's into " + v, x.rest(0, 2), Math.max(0, v - left));
            }
        }
    }

    private void changesAtForty() {
        for (int n = 39; n <= 42; n++) {
            TwoElbows x = Scene.of(111);
            for (int k = 1; k <= n; k++) x.mend(0, 4, k);
            int kept = Math.min(n, 40);
            c.same(37, "kept of " + n, x.count(5), kept);
            for (int k = kept - 1; k >= 0; k--) c.same(26, "undo()", x.undo(), k);
            c.same(26, "none", x.undo(), STATE);
            c.same(26, "those ahead stay", x.of(0, 4), n - kept);
            for (int k = kept - 1; k >= 0; k--) c.same(27, "redo()", x.redo(), k);
            c.same(27, "none", x.redo(), STATE);
            c.same(27, "all again", x.of(0, 4), n);
        }
        TwoElbows x = Scene.of(111);
        for (int k = 1; k <= 40; k++) x.mend(0, 4, k);
        for (int k = 0; k < 40; k++) x.undo();
        x.mend(0, 4, 0);
        c.same(27, "the same number is no other", x.redo(), 39);
        x.undo();
        x.mend(0, 3, 7);
        c.same(27, "another came", x.redo(), STATE);
        c.same(37, "it alone", x.count(5), 1);
    }

    private void lastBody() {
        TwoElbows x = new TwoElbows();
        for (int k = 0; k < 50; k++) {
            c.same(29, "ahead of body " + k, x.act(k, 0, 1), 0);
            c.same(31, "ahead of it", x.keep(0, k), BAD);
            c.same(28, "body " + k, x.body(k % 8), k);
            c.same(31, "it can be kept", x.keep(0, k), 1);
            c.same(36, "its KIND", x.taken(0, 0), k % 8);
        }
        c.same(28, "one more", x.body(0), FULL);
        c.same(29, "the last one yields", x.act(49, 2, 0), 49);
        c.same(29, "one behind", x.act(50, 2, 0), 0);
        c.same(37, "BODIES", x.count(6), 50);
    }

    private void actsThatWrap() {
        TwoElbows x = new TwoElbows();
        for (int kind = 0; kind < 8; kind++) x.body(kind);
        int[][] due = {
            {0, 0, MAX, MAX}, {6, 0, MAX, 2 * (MAX + 6)}, {1, 0, MAX, MAX + 4}, {0, 1, MAX, -2}, {0, 1, MIN, 0},
            {2, 1, MIN, -2 * (MIN + 2)}, {3, 1, MAX, -2 * (MIN + 3)}, {3, 2, MAX, 3 * (MAX ^ 3)}, {0, 2, MIN, MIN},
            {0, 3, MAX, -3}, {4, 2, MIN, (MIN ^ 4) - (2 + 4 + 3)}, {5, 3, MAX, -2 * (MIN + 5) - 3 * (1 ^ 5) ^ 5},
        };
        for (int[] d : due) {
            c.same(29, "body " + d[0] + ", ACT " + d[1] + " with " + d[2], x.act(d[0], d[1], d[2]), d[3]);
        }
    }

    private void traceAtItsEnds() {
        TwoElbows x = new TwoElbows();
        x.body(7);
        x.act(0, 3, 1);
        c.same(37, "as many as can be", x.count(7), 14);
        c.same(30, "the first", x.trace(0), 81);
        c.same(30, "the last", x.trace(13), 1);
        c.same(30, "one behind", x.trace(14), BAD);
        x.act(0, 0, 1);
        c.same(37, "of the latest act alone", x.count(7), 2);
        c.same(30, "the last", x.trace(1), 1);
        c.same(30, "one behind", x.trace(2), BAD);
        x.act(0, 4, 1);
        c.same(37, "no ACT, none ran", x.count(7), 0);
        c.same(30, "no TRACE", x.trace(0), BAD);
    }

    private void shelvesAndRows() {
        for (int shelf = 0; shelf < 6; shelf++) {
            TwoElbows x = new TwoElbows();
            for (int sort = 0; sort < 5; sort++) {
                for (int n : new int[] {0, 1, 59, 60}) {
                    c.same(32, "row of " + n, x.row(shelf, sort, n), 1);
                    c.same(33, "behind its last", x.put(shelf, n, 1), -13);
                    c.same(33, "ahead of its first", x.put(shelf, -1, 1), -13);
                    if (n == 0) continue;
                    c.same(34, "0 at first", x.element(shelf, n - 1), 0);
                    c.same(33, "its last", x.put(shelf, n - 1, 1), 1);
                    c.same(34, "its last", x.element(shelf, n - 1), 1);
                    c.same(34, "its first", x.element(shelf, 0), n == 1 ? 1 : 0);
                }
            }
            for (int other = 0; other < 6; other++) c.same(36, "shelf " + other, x.taken(other, 0), other == shelf ? -12 : -11);
        }
    }

    private void lowestBits() {
        long[][] due = {
            {127, 127, 127, 127, 127, 1}, {128, -128, 128, 128, 128, 1}, {-128, -128, -128, -128, -128, 1},
            {-129, 127, -129, -129, -129, 1}, {256, 0, 256, 256, 256, 1}, {32767, -1, 32767, 32767, 32767, 1},
            {32768, 0, -32768, 32768, 32768, 1}, {-32769, -1, 32767, -32769, -32769, 1}, {65536, 0, 0, 65536, 65536, 1},
            {MAX, -1, -1, MAX, MAX, 1}, {MAX + 1L, 0, 0, MIN, MAX + 1L, 1}, {MIN - 1L, -1, -1, MAX, MIN - 1L, 1},
            {1L << 32, 0, 0, 0, 1L << 32, 1}, {Long.MAX_VALUE, -1, -1, -1, Long.MAX_VALUE, 1},
            {Long.MIN_VALUE, 0, 0, 0, Long.MIN_VALUE, 1}, {0, 0, 0, 0, 0, 0}, {-1, -1, -1, -1, -1, 1}, {2, 2, 2, 2, 2, 1},
        };
        TwoElbows x = new TwoElbows();
        for (int sort = 0; sort < 5; sort++) x.row(sort, sort, 1);
        for (long[] d : due) {
            for (int sort = 0; sort < 5; sort++) {
                c.same(33, "put " + d[0], x.put(sort, 0, d[0]), 1);
                c.same(34, d[0] + " in sort " + sort, x.element(sort, 0), d[1 + sort]);
            }
        }
    }

    private void shiftsOfAll() {
        for (int sort = 0; sort < 4; sort++) {
            TwoElbows x = new TwoElbows();
            x.row(0, sort, 60);
            x.row(5, sort, 60);
            for (int i = 0; i < 60; i++) x.put(0, i, i + 1);
            c.same(35, "all", x.shift(0, 0, 5, 0, 60), 60);
            c.same(35, "one more than all", x.shift(0, 0, 5, 0, 61), -13);
            c.same(35, "up by one on itself", x.shift(0, 0, 0, 1, 59), 59);
            c.same(35, "down by one on itself", x.shift(5, 1, 5, 0, 59), 59);
            for (int i = 0; i < 60; i++) {
                c.same(35, "up", x.element(0, i), Math.max(1, i));
                c.same(35, "down", x.element(5, i), Math.min(60, i + 2));
            }
            c.same(35, "the last one", x.shift(0, 59, 5, 59, 1), 1);
            c.same(35, "none behind the last", x.shift(0, 60, 5, 60, 0), 0);
            c.same(35, "one there", x.shift(0, 60, 5, 0, 1), -13);
            c.same(35, "one to there", x.shift(0, 0, 5, 60, 1), -13);
            c.same(35, "none from one further", x.shift(0, 61, 5, 0, 0), -13);
            c.same(35, "less than none", x.shift(0, 1, 5, 1, -1), -13);
        }
    }

    /** The 512th call of an object is answered as any other. */
    private void lastCall() {
        TwoElbows x = Scene.of(950, 930);
        for (int k = 3; k < 511; k++) c.same(6, "mend", x.mend(0, 3, k % 2), k == 3 ? 0 : (k + 1) % 2);
        c.same(26, "the 511th call", x.undo(), 39);
        c.same(12, "the 512th call", x.go(0, 24), 0);
    }
}
