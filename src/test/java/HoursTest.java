/** Promises 12 to 23: hours that go, and what is asked in thought. */
final class HoursTest {
    private static final int BAD = -1, NOT = -2, STATE = -5, VOID = -2000000000;
    private static final int MAX = Integer.MAX_VALUE, MIN = Integer.MIN_VALUE;
    private final Checks c;

    HoursTest(Checks checks) {
        c = checks;
    }

    void runAll() {
        go();
        goAlone();
        pride();
        draws();
        led();
        judge();
        match();
        matchEdges();
        then();
        quiet();
        seat();
        change();
        wider();
        both();
        deals();
        dealEdges();
        sell();
    }

    private void go() {
        TwoElbows x = Scene.fought();
        for (int n : new int[] {0, -1, 25, MIN, MAX}) c.same(12, "go(0, " + n + ")", x.go(0, n), BAD);
        c.same(12, "two HOURS", x.go(0, 2), 0);
        c.same(12, "NOW", x.count(2), 2);
        c.same(12, "RIGHT's", x.rest(0, 2), 2);
        c.same(12, "one HOUR", x.go(0, 1), 1);
        c.same(12, "LEFT's", x.rest(0, 1), 1);
        c.same(12, "RIGHT's", x.rest(0, 2), 1);
        c.same(12, "five HOURS", x.go(0, 5), 1);
        c.same(12, "LEFT's", x.rest(0, 1), 2);
        c.same(12, "FIGHTS so far", x.count(3), 2);
        c.same(12, "17 HOURS", x.go(0, 17), STATE);
        c.same(12, "25 HOURS", x.go(0, 25), BAD);
        c.same(12, "NOW stays", x.count(2), 8);
        c.same(12, "16 HOURS", x.go(0, 16), 0);
        c.same(12, "one more", x.go(0, 1), STATE);
        c.same(12, "24 at once", Scene.fought().go(0, 24), 2);
        x = Scene.of(955, 955);
        x.go(0, 24);
        c.same(12, "as many: nothing", x.rest(0, 3), 2);
    }

    private void goAlone() {
        TwoElbows x = Scene.of(990, 910);
        x.hours(0, 203, 2);
        x.hours(0, 404, 3);
        x.hours(1, 404, 2);
        x.hours(1, 505, 1);
        x.go(0, 2);
        c.same(12, "the LEFT holds both", x.rest(0, 1), 2);
        x.go(0, 1);
        c.same(12, "UP leaves its inches", x.rest(0, 1), 0);
        c.same(12, "the other one takes one of them", x.rest(0, 2), 1);
        x.go(0, 1);
        c.same(12, "and another", x.rest(0, 2), 2);
        x.go(0, 1);
        c.same(12, "both away: all FREE", x.rest(0, 3), 2);
        x.hours(0, 505, 3);
        x.go(0, 1);
        c.same(12, "one ASLEEP takes a FREE one, too", x.rest(0, 2), 1);
        x.hours(1, 608, 2);
        x.go(0, 3);
        c.same(12, "the LEFT alone takes no more than there are", x.rest(0, 1), 2);
        c.same(12, "no FIGHTS", x.count(3), 0);
    }

    private void pride() {
        for (int pride = 0; pride < 5; pride++) {
            TwoElbows x = Scene.of(950, 930 + pride);
            Scene.law(x, "h<2?(p=3)*9;p");
            c.same(12, "RIGHT's PRIDE " + pride, x.go(0, 24), pride < 2 ? 2 : 0);
            x = Scene.of(930 + pride, 950);
            Scene.law(x, "h<2?(p=3)*9;p");
            c.same(12, "LEFT's PRIDE " + pride, x.go(0, 24), pride < 2 ? 2 : 0);
            x = Scene.of(950 + pride, 930);
            Scene.law(x, "h<2?(p=3)*9;p");
            c.same(12, "the PRIDE of the stronger is not asked", x.go(0, 24), 2);
        }
    }

    private void draws() {
        int[] seeds = {0, 1, -1, 12345, MIN, MAX};
        for (int seed : seeds) {
            TwoElbows x = Scene.of(950, 950, 950);
            for (int r = 0; r < 2; r++) x.wide(r, 9);
            x.hours(2, 101, 2);
            Scene.law(x, "c");
            x.go(seed, 3);
            int z = seed;
            int[] held = new int[2];
            int met = 0;
            for (int hour = 0; hour < 3; hour++) {
                for (int r = 0; r < (hour == 1 ? 1 : 2); r++, met++) {
                    z = z * 1103515245 + 12345;
                    int left = (z >>> 8) % 100;
                    z = z * 1103515245 + 12345;
                    if (left > (z >>> 8) % 100) held[r]++;
                }
                if (hour == 1) held[1]++;
            }
            c.same(12, "LEFT's by coughs of " + seed, x.rest(0, 1), held[0]);
            c.same(12, "LEFT's by coughs of " + seed, x.rest(1, 1), held[1]);
            c.same(12, "draws", met, 5);
        }
    }

    private void led() {
        TwoElbows x = Scene.fought();
        c.same(13, "led(0, 0) ahead of all", x.led(0, 0), BAD);
        x.go(0, 5);
        int[][] due = {{0, 1, 0}, {0, 2, 0}, {1, 1, 1}, {2, 0, 1}, {2, 0, 0}};
        for (int hour = 0; hour < 5; hour++) {
            for (int what = 0; what < 3; what++) c.same(13, "led(" + 10 * hour + ", " + what + ")", x.led(10 * hour, what), due[hour][what]);
        }
        c.same(13, "what 3", x.led(0, 3), BAD);
        c.same(13, "what -1", x.led(0, -1), BAD);
        c.same(13, "a rest that is not there", x.led(1, 0), BAD);
        c.same(13, "rest 9", x.led(9, 0), BAD);
        c.same(13, "NOW's", x.led(50, 0), BAD);
        c.same(13, "-10", x.led(-10, 0), BAD);
        c.same(13, "-1", x.led(-1, 0), BAD);
        c.same(13, "MAX", x.led(MAX, 0), BAD);
        c.same(13, "MIN", x.led(MIN, 0), BAD);
        x.wide(0, 1);
        c.same(13, "what was stays", x.led(40, 0), 2);
        x = Scene.of(950, 930, 910);
        x.go(0, 2);
        c.same(13, "led(11, 0)", x.led(11, 0), 2);
        c.same(13, "led(11, 1)", x.led(11, 1), 0);
        c.same(13, "led(1, 0)", x.led(1, 0), 1);
        x.go(0, 22);
        c.same(13, "led(231, 0)", x.led(231, 0), 2);
        c.same(13, "led(241, 0)", x.led(241, 0), BAD);
        x = Scene.of(930, 950);
        Scene.law(x, "h=20?0-1*(p=3)+1;p-3");
        x.wide(0, 1);
        x.hours(0, 1919, 2);
        x.hours(1, 1919, 2);
        x.go(0, 24);
        c.same(13, "the RIGHT holds one in 18", x.led(180, 1), 1);
        c.same(13, "none in 19", x.led(190, 1), 0);
        c.same(13, "one again in 20", x.led(200, 1), 1);
        x = Scene.of(950, 931);
        Scene.law(x, "h<20?(p=3)*9;p");
        x.go(0, 24);
        for (int hour = 0; hour < 24; hour++) {
            c.same(13, "a FIGHT in " + hour, x.led(10 * hour, 2), hour == 20 || hour == 21 ? 1 : 0);
        }
    }

    private void judge() {
        TwoElbows x = Scene.fought();
        Scene.row(x, 0, 0, 0, 1, 0, 2, 1, 1, 2, 0, 2, 0);
        c.same(14, "no HOUR so far", x.judge(0, 0), NOT);
        x.go(0, 5);
        c.same(14, "all so", x.judge(0, 0), NOT);
        x.put(0, 8, 1);
        c.same(14, "LEFT's not so in 4", x.judge(0, 0), 4);
        x.put(0, 5, 0);
        c.same(14, "RIGHT's not so in 2", x.judge(0, 0), 2);
        x.put(0, 0, 9);
        c.same(14, "LEFT's not so in 0", x.judge(0, 0), 0);
        Scene.row(x, 0, 0, 0, 1, 0, 2, 1, 1, 2, 0, 2, 0, 9, 9);
        c.same(14, "it goes on behind NOW", x.judge(0, 0), NOT);
        Scene.row(x, 0, 0, 0, 1, 0, 2);
        c.same(14, "it ends before", x.judge(0, 0), NOT);
        Scene.row(x, 0, 0, 0, 1, 0, 2, 9);
        c.same(14, "it ends within a two, LEFT's not so", x.judge(0, 0), 2);
        Scene.row(x, 0, 0, 0, 1, 0, 2, 1);
        c.same(14, "it ends within a two, LEFT's so", x.judge(0, 0), NOT);
        Scene.row(x, 0, 0, 9);
        c.same(14, "LEFT's of HOUR 0 alone, not so", x.judge(0, 0), 0);
        Scene.row(x, 0, 0, 0);
        c.same(14, "LEFT's of HOUR 0 alone, so", x.judge(0, 0), NOT);
        Scene.row(x, 0, 0, 0, 1, 0, 2, 1, 1, 2, 0, 2, 0, 9);
        c.same(14, "LEFT's of NOW, not so far", x.judge(0, 0), NOT);
        x.row(0, 0, 0);
        c.same(14, "it is empty", x.judge(0, 0), NOT);
        c.same(14, "nothing there", x.judge(1, 0), -11);
        for (int sort = 1; sort < 5; sort++) {
            x.row(1, sort, 4);
            c.same(14, "a row of sort " + sort, x.judge(1, 0), -12);
        }
        x.body(0);
        x.keep(1, 0);
        c.same(14, "a HOLDING", x.judge(1, 0), -12);
        c.same(14, "rest 1", x.judge(0, 1), BAD);
        c.same(14, "rest -1", x.judge(0, -1), BAD);
        c.same(14, "nothing there, rest 1", x.judge(2, 1), BAD);
        c.same(14, "shelf 6", x.judge(6, 0), BAD);
        c.same(14, "shelf -1", x.judge(-1, 0), BAD);
        x = Scene.of(950, 930, 910);
        x.go(0, 2);
        x.row(0, 0, 60);
        x.put(0, 0, 1);
        x.put(0, 2, 2);
        c.same(14, "rest 1 as rest 0", x.judge(0, 1), NOT);
        x.go(0, 22);
        c.same(14, "HOUR 2 of rest 1", x.judge(0, 1), 2);
    }

    private void match() {
        TwoElbows x = new TwoElbows();
        c.same(15, "NOW 0", x.match(), STATE);
        x.go(0, 1);
        c.same(15, "no REST", x.match(), 0);
        x = Scene.fought();
        x.go(55, 10);
        c.same(15, "no cough in the law", x.match(), 0);
        for (int seed : new int[] {0, 1, 37, 98, 99}) {
            x = Scene.of(950, 950, 950, 950);
            for (int r = 0; r < 3; r++) x.wide(r, 9);
            Scene.law(x, "c");
            x.go(seed, 24);
            c.same(15, "the seed " + seed, x.match(), seed);
        }
        x = Scene.of(950, 950, 950, 950);
        for (int r = 0; r < 3; r++) x.wide(r, 9);
        Scene.law(x, "c");
        x.go(100, 24);
        c.same(15, "the seed 100", x.match(), NOT);
    }

    private void matchEdges() {
        TwoElbows x = Scene.of(930, 950);
        x.go(0, 3);
        x.mend(0, 1, 9);
        c.same(15, "another PUSH", x.match(), NOT);
        x.undo();
        c.same(15, "UNDONE", x.match(), 0);
        x.wide(0, 1);
        c.same(15, "another WIDE", x.match(), NOT);
        x.wide(0, 9);
        c.same(15, "another WIDE", x.match(), NOT);
        x.wide(0, 2);
        c.same(15, "WIDE as it was", x.match(), 0);
        x.hours(0, 323, 2);
        c.same(15, "HOURS to come are not asked", x.match(), 0);
        x = Scene.of(950, 930);
        x.go(0, 3);
        x.wide(0, 1);
        c.same(15, "LEFT's alone are otherwise", x.match(), NOT);
        x.wide(0, 2);
        c.same(15, "WIDE as it was", x.match(), 0);
        fightsAlone();
    }

    /** Only the FIGHT of an HOUR may tell what was from what would have been. */
    private void fightsAlone() {
        TwoElbows x = Scene.of(950, 930);
        x.go(0, 2);
        x.mend(0, 3, 0);
        x.mend(1, 4, 9);
        c.same(23, "all inches go", x.sell(0), 2);
        c.same(12, "and one comes again by a FIGHT", x.go(0, 1), 1);
        x.undo();
        c.same(15, "it would have kept two", x.match(), NOT);
        x = Scene.of(950, 930);
        x.wide(0, 1);
        x.go(0, 1);
        x.mend(1, 4, 9);
        x.sell(0);
        c.same(12, "the one comes again by a FIGHT", x.go(0, 1), 1);
        c.same(13, "as many inches as without", x.led(10, 0), x.led(0, 0));
        c.same(15, "but it would have been no FIGHT", x.match(), NOT);
    }

    private void then() {
        TwoElbows x = Scene.fought();
        c.same(16, "FIGHTS in 24 HOURS", x.then(0, 24, -1, 0), 2);
        c.same(16, "FIGHTS in 3 HOURS", x.then(0, 3, -1, 0), 1);
        c.same(16, "FIGHTS in 0 HOURS", x.then(0, 0, -1, 0), 0);
        c.same(16, "inches of 1 in 2", x.then(0, 2, 1, 0), 2);
        c.same(16, "inches of 0 in 3", x.then(0, 3, 0, 0), 1);
        c.same(16, "COMFORT to 1 in 3", x.then(0, 3, 1, 1), 3 + 6 + 1);
        c.same(16, "COMFORT to 0 in 5", x.then(0, 5, 0, 1), 1 + 4 + 6);
        int[][] bad = {{-1, 0, 0}, {25, 0, 0}, {1, -2, 0}, {1, 2, 0}, {1, 0, 2}, {1, 0, -1}, {1, -1, 1}, {1, -1, -1}, {MAX, 0, 0}};
        for (int[] b : bad) c.same(16, "then(0, " + b[0] + ", " + b[1] + ", " + b[2] + ")", x.then(0, b[0], b[1], b[2]), VOID);
        c.same(16, "nothing has changed", x.count(2) + x.count(3) + x.of(1, 5) + x.of(1, 6), 0);
        x.go(0, 3);
        c.same(16, "inches NOW", x.then(0, 0, 1, 0), 1);
        c.same(16, "COMFORT that comes, without what came", x.then(0, 1, 1, 1), -2);
        c.same(16, "FIGHTS that come", x.then(0, 21, -1, 0), 1);
        c.same(16, "22 HOURS", x.then(0, 22, -1, 0), STATE);
        c.same(16, "22 HOURS of no sitter", x.then(0, 22, 5, 0), VOID);
        x = Scene.of(950, 950);
        x.wide(0, 9);
        Scene.law(x, "c");
        int most = x.then(77, 24, 0, 0);
        x.go(77, 24);
        c.same(16, "by the SEED", most, x.of(0, 5));
    }

    private void quiet() {
        c.same(17, "nobody", new TwoElbows().quiet(0), 0);
        TwoElbows x = Scene.fought();
        c.same(17, "fought", x.quiet(0), 4);
        x.go(0, 4);
        c.same(17, "from NOW on", x.quiet(0), 4);
        x.go(0, 2);
        c.same(17, "from NOW on", x.quiet(0), 6);
        x.hours(0, 1010, 2);
        c.same(17, "UP: left, two taken, fought", x.quiet(0), 13);
        x.hours(0, 2323, 3);
        c.same(17, "one in the last", x.quiet(0), NOT);
        c.same(17, "NOW stays", x.count(2), 6);
        x.go(0, 18);
        c.same(17, "no HOURS left", x.quiet(0), 24);
        x = Scene.of(955, 955);
        x.go(0, 3);
        c.same(17, "none moved", x.quiet(0), 3);
        x = Scene.of(990, 910);
        x.hours(1, 23, 2);
        x.go(0, 2);
        x.hours(0, 2223, 2);
        c.same(17, "left without another who takes", x.quiet(0), 23);
        x = Scene.of(990, 910);
        x.hours(0, 22, 2);
        x.hours(1, 22, 2);
        c.same(17, "taken in the last", x.quiet(0), NOT);
    }

    private void seat() {
        TwoElbows x = Scene.of(930, 950, 910);
        c.same(18, "sitter 3", x.seat(0, 3), BAD);
        c.same(18, "sitter -1", x.seat(0, -1), BAD);
        c.same(18, "the strongest stays between", x.seat(0, 1), 1);
        c.same(18, "0 with 1 at its side gains none; with 2 at its side, by 1's place", x.seat(0, 0), 1);
        c.same(18, "the weakest gains none anywhere", x.seat(0, 2), 2);
        c.same(18, "nothing has changed", x.of(0, 1), 3);
        x = Scene.of(999);
        c.same(18, "alone", x.seat(0, 0), 0);
        x = Scene.of(950, 950, 950, 950);
        x.hours(0, 23, 2);
        x.hours(3, 23, 2);
        c.same(18, "of like ones its own", x.seat(0, 1), 1);
        c.same(18, "UP everywhere", x.seat(0, 0), 0);
        x.go(0, 24);
        c.same(18, "at the end: its own", x.seat(0, 3), 3);
        x = Scene.of(910, 910, 990, 930);
        c.same(18, "of like ones the least", x.seat(0, 3), 0);
        x = Scene.of(950, 930);
        x.hours(0, 23, 2);
        c.same(18, "its HOURS go along", x.seat(0, 0), 0);
        c.same(18, "the other one's, too", x.seat(0, 1), 1);
        inchesStay();
    }

    /** One holds two inches of a rest where all are as strong; it should not leave them. */
    private void inchesStay() {
        TwoElbows x = Scene.of(950, 930, 920);
        x.go(0, 2);
        Scene.law(x, "5");
        c.same(18, "1 gains the LEFT's inches of 0, or its own", x.seat(0, 1), 1);
        c.same(18, "2 takes the inches of the least seat", x.seat(0, 2), 0);
        c.same(18, "0 keeps its own", x.seat(0, 0), 0);
    }

    private void change() {
        c.same(19, "nobody", new TwoElbows().change(0), NOT);
        c.same(19, "one", Scene.of(999).change(0), NOT);
        c.same(19, "like ones", Scene.of(955, 955, 955).change(0), NOT);
        TwoElbows x = Scene.of(50, 930, 920);
        c.same(19, "SIZE 0 who is strong holds but has none", x.change(0), NOT);
        x = Scene.of(930, 90, 920);
        c.same(19, "out of the middle, first pair of like ones", x.change(0), 1);
        x = Scene.of(930, 910, 90, 920);
        c.same(19, "SIZE 0 to the wall: the sum of all is greatest", x.change(0), 2);
        x = Scene.of(240, 930, 90, 920);
        c.same(19, "SIZE 0 to the aisle", x.change(0), 23);
        x.go(0, 24);
        c.same(19, "at the end", x.change(0), NOT);
        x = Scene.of(950, 950, 950);
        x.hours(1, 23, 2);
        x.go(0, 1);
        c.same(19, "who is UP stays between", x.change(0), NOT);
    }

    private void wider() {
        TwoElbows x = Scene.fought();
        c.same(20, "no inch, no FIGHT", x.wider(0, 0), 0);
        c.same(20, "rest 1", x.wider(0, 1), BAD);
        c.same(20, "rest -1", x.wider(0, -1), BAD);
        x.go(0, 2);
        c.same(20, "with inches held", x.wider(0, 0), 0);
        c.same(20, "WIDE stays", x.rest(0, 0), 2);
        c.same(20, "inches stay", x.rest(0, 2), 2);
        x.go(0, 22);
        c.same(20, "at the end", x.wider(0, 0), 0);
        x = Scene.fought();
        x.then(0, 3, -1, 0);
        c.same(20, "whatever was thought before", x.wider(0, 0), 0);
        c.same(20, "nobody", new TwoElbows().wider(0, 0), BAD);
    }

    private void both() {
        int[][] due = {
            {9, 9, 9, 4, 9}, {9, 9, 8, 4, 8}, {9, 9, 0, 0, 0}, {3, 3, 9, 3, 6}, {3, 1, 4, 3, 4}, {1, 3, 4, 1, 4}, {9, 0, 5, 5, 5},
            {0, 9, 5, 0, 5}, {0, 0, 9, 0, 0}, {5, 5, 9, 4, 9}, {2, 9, 9, 2, 9}, {9, 2, 9, 7, 9}, {4, 4, 9, 4, 8}, {4, 9, 9, 4, 9}, {9, 4, 9, 5, 9}, {6, 4, 7, 3, 7}, {4, 6, 8, 4, 8}, {9, 3, 8, 5, 8}, {2, 4, 8, 2, 6}, {4, 2, 8, 4, 6}, {3, 3, 8, 3, 6}, {1, 1, 1, 0, 1},
        };
        for (int[] d : due) {
            TwoElbows x = Scene.of(d[0] * 100, d[1] * 100);
            x.wide(0, d[2]);
            String of = d[0] + " and " + d[1] + " at " + d[2];
            c.same(21, of + ": l", x.both(0, 0), d[3]);
            c.same(21, of + ": the sum", x.both(0, 1), d[4]);
        }
        TwoElbows x = Scene.of(999, 999);
        c.same(21, "what 2", x.both(0, 2), BAD);
        c.same(21, "what -1", x.both(0, -1), BAD);
        c.same(21, "rest 1", x.both(1, 0), BAD);
        c.same(21, "rest -1", x.both(-1, 0), BAD);
    }

    private void deals() {
        TwoElbows x = SittersTest.inches(4, 3);
        c.same(22, "no OFFER", x.deals(0, 0), 0);
        x.mend(0, 3, 10);
        x.mend(1, 4, 15);
        c.same(22, "WORTH", x.deals(0, 0), 4 * 5);
        c.same(22, "inches", x.deals(0, 1), 4);
        c.same(22, "the LEFT has", x.deals(0, 2), 4 * 12);
        x.mend(1, 0, 5);
        c.same(22, "it can use two more", x.deals(0, 1), 2);
        x.mend(1, 0, 3);
        c.same(22, "it can use no more", x.deals(0, 1), 0);
        x.mend(0, 4, 20);
        x.mend(1, 3, 19);
        c.same(22, "else the RIGHT: WORTH", x.deals(0, 0), 3);
        c.same(22, "inches", x.deals(0, 1), 3);
        c.same(22, "the LEFT pays", x.deals(0, 2), -3 * 19);
        x.mend(1, 0, 4);
        c.same(22, "the LEFT alone, if it would", x.deals(0, 1), 1);
        c.same(22, "WORTH", x.deals(0, 0), 5);
        c.same(22, "the LEFT has", x.deals(0, 2), 12);
        x.mend(0, 0, 5);
        x.mend(1, 0, 0);
        c.same(22, "the LEFT can use one more", x.deals(0, 1), 1);
        x.mend(1, 3, 20);
        c.same(22, "the RIGHT asks as much as is offered", x.deals(0, 1), 0);
        x.mend(1, 3, 0);
        x.mend(0, 0, 2);
        c.same(22, "the LEFT holds more than it can use", x.deals(0, 1), 0);
        c.same(22, "so none goes", x.sell(0), 0);
        x.mend(0, 0, 5);
        c.same(22, "in thought", x.rest(0, 1), 4);
    }

    private void dealEdges() {
        TwoElbows x = SittersTest.inches(4, 3);
        x.mend(0, 3, 15);
        x.mend(1, 4, 15);
        c.same(22, "as much is not more", x.deals(0, 1), 0);
        x.mend(1, 4, 16);
        c.same(22, "one more is", x.deals(0, 1), 4);
        c.same(22, "half of 31, cut", x.deals(0, 2), 4 * 15);
        x.mend(0, 3, 0);
        x.mend(1, 4, 99);
        c.same(22, "WORTH", x.deals(0, 0), 4 * 99);
        for (int what : new int[] {-1, 3, MAX}) c.same(22, "what " + what, x.deals(0, what), VOID);
        c.same(22, "rest 1", x.deals(1, 0), VOID);
        c.same(22, "rest -1", x.deals(-1, 0), VOID);
        x = SittersTest.inches(0, 3);
        x.mend(1, 4, 9);
        c.same(22, "the LEFT has none to sell", x.deals(0, 1), 0);
        x.mend(0, 4, 9);
        c.same(22, "the RIGHT sells", x.deals(0, 1), 3);
        c.same(22, "half of 9, cut", x.deals(0, 2), -3 * 4);
    }

    private void sell() {
        TwoElbows x = SittersTest.inches(4, 3);
        c.same(23, "none", x.sell(0), 0);
        x.mend(1, 4, 15);
        x.mend(1, 0, 5);
        c.same(23, "two go", x.sell(0), 2);
        c.same(23, "LEFT's", x.rest(0, 1), 2);
        c.same(23, "RIGHT's", x.rest(0, 2), 5);
        c.same(23, "FREE", x.rest(0, 3), 2);
        c.same(23, "no more", x.sell(0), 0);
        x.mend(1, 4, 0);
        x.mend(0, 4, 1);
        c.same(23, "all of the RIGHT's", x.sell(0), 5);
        c.same(23, "LEFT's", x.rest(0, 1), 7);
        c.same(23, "RIGHT's", x.rest(0, 2), 0);
        c.same(23, "what LED tells stays", x.led(60, 0), 4);
        c.same(23, "rest 1", x.sell(1), BAD);
        c.same(23, "rest -1", x.sell(-1), BAD);
        c.same(23, "rest 7", x.sell(7), BAD);
    }
}
