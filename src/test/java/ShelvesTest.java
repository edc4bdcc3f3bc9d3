/** Promises 24 to 37: images, changes undone, holdings, shelves, counts. */
final class ShelvesTest {
    private static final int BAD = -1, FULL = -3, STATE = -5;
    private static final int MAX = Integer.MAX_VALUE, MIN = Integer.MIN_VALUE;
    private static final long NONE = Long.MIN_VALUE;
    private final Checks c;

    ShelvesTest(Checks checks) {
        c = checks;
    }

    void runAll() {
        image();
        backWithLessRoom();
        undo();
        undoForty();
        body();
        act();
        trace();
        keep();
        row();
        put();
        element();
        shift();
        shiftRefused();
        taken();
        count();
    }

    private void image() {
        TwoElbows x = Scene.fought();
        c.same(25, "there is none", x.back(), STATE);
        x.go(0, 3);
        c.same(24, "image()", x.image(), 3);
        x.go(0, 2);
        c.same(24, "another HOUR's", x.image(), 5);
        x.go(0, 4);
        c.same(25, "back() to the latest", x.back(), 5);
        x = Scene.fought();
        x.image();
        x.go(0, 3);
        x.image();
        x.go(0, 10);
        c.same(25, "back()", x.back(), 3);
        c.same(25, "NOW", x.count(2), 3);
        c.same(25, "LEFT's", x.rest(0, 1), 1);
        c.same(25, "RIGHT's", x.rest(0, 2), 1);
        c.same(25, "COMFORT of 0", x.of(0, 6), 1);
        c.same(25, "COMFORT of 1", x.of(1, 6), 10);
        c.same(25, "YIELDS of 1", x.of(1, 7), 1);
        c.same(25, "FIGHTS so far", x.count(3), 1);
        c.same(25, "LED tells HOUR 2", x.led(20, 2), 1);
        c.same(25, "LED tells no HOUR 3", x.led(30, 2), BAD);
        Scene.law(x, "p=3");
        x.go(0, 4);
        c.same(25, "HOUR 3 goes otherwise", x.led(30, 1), 2);
        c.same(25, "back() again", x.back(), 3);
        c.same(25, "LEFT's", x.rest(0, 1), 1);
    }

    private void backWithLessRoom() {
        TwoElbows x = SittersTest.inches(4, 3);
        x.image();
        x.mend(0, 0, 1);
        x.hours(0, 808, 1);
        x.go(0, 8);
        x.wide(0, 6);
        c.same(25, "back()", x.back(), 7);
        c.same(25, "WIDE as it is", x.rest(0, 0), 6);
        c.same(25, "the LEFT's first", x.rest(0, 1), 4);
        c.same(25, "the RIGHT's as far as there is room", x.rest(0, 2), 2);
        c.same(25, "SITTERS as they are", x.of(0, 0), 1);
        c.same(25, "HOURS as they are", x.of(0, 108), 1);
        x.wide(0, 3);
        x.back();
        c.same(25, "the LEFT's as far as there is room", x.rest(0, 1), 3);
        x.wide(0, 9);
        x.back();
        c.same(25, "the image keeps all", x.rest(0, 2), 3);
        c.same(25, "the image keeps all", x.rest(0, 1), 4);
        c.same(25, "changes may still be UNDONE", x.undo(), 4);
    }

    private void undo() {
        TwoElbows x = Scene.of(111, 222);
        c.same(26, "none", x.undo(), STATE);
        c.same(27, "none", x.redo(), STATE);
        x.mend(0, 0, 1);
        c.same(26, "the same number is none", x.undo(), STATE);
        for (int what = 0; what < 5; what++) x.mend(1, what, 5 + what);
        c.same(26, "count(5)", x.count(5), 5);
        int[] was = {2, 2, 2, 0, 0};
        for (int what = 4; what >= 0; what--) {
            c.same(26, "undo()", x.undo(), what);
            c.same(26, "of(1, " + what + ")", x.of(1, what), was[what]);
        }
        c.same(26, "none", x.undo(), STATE);
        for (int what = 0; what < 5; what++) {
            c.same(27, "redo()", x.redo(), 4 - what);
            c.same(27, "of(1, " + what + ")", x.of(1, what), 5 + what);
        }
        c.same(27, "none", x.redo(), STATE);
        x.undo();
        x.undo();
        x.mend(0, 0, 1);
        x.mend(0, 0, 10);
        x.wide(0, 7);
        x.hours(0, 23, 1);
        c.same(27, "as long as no other came", x.redo(), 1);
        x.mend(0, 0, 7);
        c.same(27, "another came", x.redo(), STATE);
        c.same(26, "undo()", x.undo(), 4);
        c.same(26, "of(0, 0)", x.of(0, 0), 1);
        c.same(26, "wide is no change", x.rest(0, 4), 7);
    }

    private void undoForty() {
        TwoElbows x = Scene.of(111);
        for (int k = 1; k <= 45; k++) x.mend(0, 3, k);
        c.same(26, "40 are kept", x.count(5), 40);
        for (int k = 39; k >= 0; k--) c.same(26, "undo()", x.undo(), k);
        c.same(26, "none", x.undo(), STATE);
        c.same(26, "the first five stay", x.of(0, 3), 5);
        for (int k = 39; k >= 0; k--) c.same(27, "redo()", x.redo(), k);
        c.same(27, "of(0, 3)", x.of(0, 3), 45);
        x.undo();
        x.mend(0, 4, 9);
        c.same(26, "count(5)", x.count(5), 40);
        c.same(27, "none", x.redo(), STATE);
        undoFortyOfAll();
    }

    /** Changes of all sitters and all that can be mended, by turns: each goes back and comes again as it was. */
    private void undoFortyOfAll() {
        TwoElbows x = Scene.of(0, 0, 0);
        int n = 57;
        for (int k = 0; k < n; k++) x.mend(k % 3, k % 5, 1 + k / 15);
        for (int k = n - 1; k >= n - 40; k--) {
            c.same(26, "change " + k + " is there", x.of(k % 3, k % 5), 1 + k / 15);
            x.undo();
            c.same(26, "change " + k + " is UNDONE", x.of(k % 3, k % 5), k / 15);
        }
        c.same(26, "none", x.undo(), STATE);
        for (int k = n - 40; k < n; k++) {
            x.redo();
            c.same(27, "change " + k + " is DONE AGAIN", x.of(k % 3, k % 5), 1 + k / 15);
        }
        c.same(27, "none", x.redo(), STATE);
    }

    private void body() {
        TwoElbows x = new TwoElbows();
        c.same(28, "kind -1", x.body(-1), BAD);
        c.same(28, "kind 8", x.body(8), BAD);
        for (int k = 0; k < 50; k++) c.same(28, "body", x.body(k % 8), k);
        c.same(28, "FULL", x.body(0), FULL);
        c.same(28, "BAD, and FULL", x.body(8), BAD);
        c.same(28, "count(6)", x.count(6), 50);
        x.keep(0, 49);
        c.same(28, "the KIND of 49", x.taken(0, 0), 49 % 8);
    }

    /** A body of each KIND under the same number; n of them ahead. */
    private static TwoElbows holding(int n, int kind) {
        TwoElbows x = new TwoElbows();
        for (int k = 0; k < n; k++) x.body(0);
        x.body(kind);
        return x;
    }

    private void act() {
        int n = 6;
        for (int v : new int[] {0, 1, -1, 7, 100, -12345, MAX, MIN}) {
            int holds = v + n;
            int yields = v ^ n;
            int yields1 = 1 ^ n;
            int sold1 = (1 ^ n) - (2 + n + 3);
            int[][] due = {
                {holds, holds * 2, yields, holds * 2 - yields1},
                {holds + 3, (holds + 3) * 2, yields, (holds + 3) * 2 - yields1},
                {holds, -(holds * 2), yields, -(holds * 2) - yields1},
                {holds, -((holds + 1) * 2), yields * 3, -((holds + 1) * 2) - yields1 * 3},
                {holds + 3, (holds + 3) * 2, yields - (2 + n + 3), (holds + 3) * 2 - sold1},
                {holds, -((holds + 1) * 2), yields * 3, -((holds + 1) * 2) - yields1 * 3 ^ 5},
                {holds * 2, holds * 4, yields, holds * 4 - yields1},
                {holds + 3, (holds + 3) * 2 + (2 ^ n) - (2 + n + 3), yields - (2 + n + 3),
                    (holds + 3) * 2 + (2 ^ n) - (2 + n + 3) - sold1 - 1},
            };
            for (int kind = 0; kind < 8; kind++) {
                TwoElbows x = holding(n, kind);
                for (int act = 0; act < 4; act++) {
                    c.same(29, "KIND " + kind + ", ACT " + act + " with " + v, x.act(n, act, v), due[kind][act]);
                }
            }
        }
        TwoElbows x = holding(0, 0);
        int[][] wrong = {{-1, 0}, {1, 0}, {0, -1}, {0, 4}, {MAX, 0}, {0, MIN}};
        for (int[] w : wrong) {
            x.act(0, 0, 9);
            c.same(29, "act(" + w[0] + ", " + w[1] + ", 9)", x.act(w[0], w[1], 9), 0);
            c.same(29, "no TRACE then", x.trace(0), BAD);
            c.same(29, "none ran", x.count(7), 0);
        }
    }

    private void trace() {
        int[][][] due = {
            {{1}, {10, 1}, {11}, {2, 10, 1, 11}},
            {{20, 1}, {10, 20, 1}, {11}, {2, 10, 20, 1, 11}},
            {{1}, {30, 10, 1}, {11}, {2, 30, 10, 1, 11}},
            {{1}, {41, 30, 10, 1}, {40, 11}, {2, 41, 30, 10, 1, 40, 11}},
            {{20, 1}, {10, 20, 1}, {50, 11, 20, 1}, {2, 10, 20, 1, 50, 11, 20, 1}},
            {{1}, {41, 30, 10, 1}, {40, 11}, {60, 2, 41, 30, 10, 1, 40, 11}},
            {{70, 1}, {10, 70, 1}, {11}, {2, 10, 70, 1, 11}},
            {{20, 1}, {80, 10, 20, 1, 50, 11, 20, 1}, {50, 11, 20, 1},
                {81, 2, 80, 10, 20, 1, 50, 11, 20, 1, 50, 11, 20, 1}},
        };
        for (int kind = 0; kind < 8; kind++) {
            TwoElbows x = holding(3, kind);
            for (int act = 0; act < 4; act++) {
                x.act(3, act, 5);
                int[] ran = due[kind][act];
                c.same(37, "bodies that ran", x.count(7), ran.length);
                for (int i = 0; i < ran.length; i++) c.same(30, "KIND " + kind + ", ACT " + act + ", trace(" + i + ")", x.trace(i), ran[i]);
                c.same(30, "behind the last", x.trace(ran.length), BAD);
                c.same(30, "trace(-1)", x.trace(-1), BAD);
            }
        }
        TwoElbows x = holding(0, 7);
        c.same(30, "no act yet", x.trace(0), BAD);
        x.act(0, 3, 0);
        c.same(30, "trace(24)", x.trace(24), BAD);
        c.same(30, "trace(MAX)", x.trace(MAX), BAD);
    }

    private void keep() {
        TwoElbows x = holding(1, 3);
        c.same(31, "keep(0, 1)", x.keep(0, 1), 1);
        c.same(31, "its KIND", x.taken(0, 0), 3);
        c.same(31, "keep(5, 1)", x.keep(5, 1), 1);
        c.same(31, "its KIND", x.taken(5, 0), 3);
        c.same(31, "keep(0, 0)", x.keep(0, 0), 1);
        c.same(31, "its KIND", x.taken(0, 0), 0);
        c.same(31, "keep(0, 2)", x.keep(0, 2), BAD);
        c.same(31, "keep(0, -2)", x.keep(0, -2), BAD);
        c.same(31, "keep(-1, 0)", x.keep(-1, 0), BAD);
        c.same(31, "keep(6, 0)", x.keep(6, 0), BAD);
        c.same(31, "keep(6, -1)", x.keep(6, -1), BAD);
        c.same(31, "its KIND stays", x.taken(0, 0), 0);
        c.same(31, "keep(0, -1)", x.keep(0, -1), 1);
        c.same(31, "nothing there", x.taken(0, 0), -11);
        x.row(0, 3, 5);
        c.same(31, "a ROW goes", x.keep(0, 1), 1);
        c.same(31, "no ROW", x.put(0, 0, 1), -12);
        x.row(0, 3, 5);
        c.same(31, "a HOLDING goes", x.put(0, 4, 1), 1);
        x.keep(0, -1);
        c.same(31, "a ROW goes", x.put(0, 0, 1), -11);
    }

    private void row() {
        TwoElbows x = new TwoElbows();
        for (int sort = 0; sort < 5; sort++) {
            c.same(32, "row(" + sort + ", " + sort + ", 60)", x.row(sort, sort, 60), 1);
            c.same(32, "its last", x.element(sort, 59), 0);
            c.same(32, "behind it", x.element(sort, 60), NONE);
        }
        c.same(32, "61", x.row(0, 0, 61), BAD);
        c.same(32, "MAX", x.row(0, 0, MAX), BAD);
        c.same(32, "-1", x.row(0, 0, -1), -14);
        c.same(32, "MIN", x.row(0, 0, MIN), -14);
        c.same(32, "-1 on shelf 6", x.row(6, 0, -1), BAD);
        c.same(32, "-1 of sort 5", x.row(0, 5, -1), BAD);
        c.same(32, "sort -1", x.row(0, -1, 1), BAD);
        c.same(32, "sort 5", x.row(0, 5, 1), BAD);
        c.same(32, "shelf -1", x.row(-1, 0, 1), BAD);
        c.same(32, "shelf 6", x.row(6, 0, 1), BAD);
        c.same(32, "refused: it stays", x.element(0, 59), 0);
        x.put(0, 3, 9);
        c.same(32, "a new one", x.row(0, 0, 5), 1);
        c.same(32, "is all 0", x.element(0, 3), 0);
        c.same(32, "and as long as said", x.element(0, 5), NONE);
        c.same(32, "none", x.row(0, 4, 0), 1);
        c.same(32, "it has no place", x.put(0, 0, 1), -13);
    }

    private void put() {
        TwoElbows x = holding(0, 0);
        long[] v = {127, 128, -129, 255, 256, 32768, -32769, 65536, 1L << 31, -1L << 33, 1L << 40, Long.MAX_VALUE, NONE + 1, -1, 0};
        for (int sort = 0; sort < 5; sort++) {
            x.row(0, sort, 3);
            for (long a : v) {
                long due = sort == 0 ? (byte) a : sort == 1 ? (short) a : sort == 2 ? (int) a : sort == 3 ? a : a != 0 ? 1 : 0;
                c.same(33, "put(0, 1, " + a + ")", x.put(0, 1, a), 1);
                c.same(33, "sort " + sort, x.element(0, 1), due);
                c.same(33, "its neighbours stay", x.element(0, 0) + x.element(0, 2), 0);
            }
        }
        c.same(33, "place 3", x.put(0, 3, 1), -13);
        c.same(33, "place -1", x.put(0, -1, 1), -13);
        c.same(33, "place MAX", x.put(0, MAX, 1), -13);
        c.same(33, "nothing there", x.put(1, 0, 1), -11);
        x.keep(1, 0);
        c.same(33, "a HOLDING", x.put(1, 0, 1), -12);
        c.same(33, "a HOLDING, place -1", x.put(1, -1, 1), -12);
        c.same(33, "shelf -1", x.put(-1, 0, 1), BAD);
        c.same(33, "shelf 6", x.put(6, 0, 1), BAD);
    }

    private void element() {
        TwoElbows x = holding(0, 0);
        Scene.row(x, 2, 3, 5, Long.MAX_VALUE, -7);
        c.same(34, "element(2, 0)", x.element(2, 0), 5);
        c.same(34, "element(2, 1)", x.element(2, 1), Long.MAX_VALUE);
        c.same(34, "element(2, 2)", x.element(2, 2), -7);
        c.same(34, "place 3", x.element(2, 3), NONE);
        c.same(34, "place -1", x.element(2, -1), NONE);
        c.same(34, "nothing there", x.element(1, 0), NONE);
        x.keep(1, 0);
        c.same(34, "a HOLDING", x.element(1, 0), NONE);
        c.same(34, "shelf -1", x.element(-1, 0), NONE);
        c.same(34, "shelf 6", x.element(6, 0), NONE);
        Scene.row(x, 3, 4, 0, 8);
        c.same(34, "true", x.element(3, 1), 1);
        c.same(34, "false", x.element(3, 0), 0);
    }

    private void is(TwoElbows x, int shelf, long... due) {
        for (int i = 0; i < due.length; i++) c.same(35, "element(" + shelf + ", " + i + ")", x.element(shelf, i), due[i]);
        c.same(35, "behind the last", x.element(shelf, due.length), NONE);
    }

    private void shift() {
        TwoElbows x = new TwoElbows();
        for (int sort = 0; sort < 4; sort++) {
            Scene.row(x, 0, sort, 1, 2, 3, 4, 5, 6);
            Scene.row(x, 1, sort, 9, 9, 9, 9);
            c.same(35, "shift(0, 2, 1, 1, 3)", x.shift(0, 2, 1, 1, 3), 3);
            is(x, 1, 9, 3, 4, 5);
            is(x, 0, 1, 2, 3, 4, 5, 6);
            c.same(35, "up on itself", x.shift(0, 0, 0, 2, 4), 4);
            is(x, 0, 1, 2, 1, 2, 3, 4);
            c.same(35, "down on itself", x.shift(0, 1, 0, 0, 5), 5);
            is(x, 0, 2, 1, 2, 3, 4, 4);
            c.same(35, "all", x.shift(1, 0, 0, 2, 4), 4);
            is(x, 0, 2, 1, 9, 3, 4, 5);
        }
        Scene.row(x, 0, 4, 1, 0);
        Scene.row(x, 1, 4, 0, 0);
        c.same(35, "booleans", x.shift(0, 0, 1, 1, 1), 1);
        is(x, 1, 0, 1);
        c.same(35, "none, at both ends", x.shift(0, 2, 1, 2, 0), 0);
    }

    private void shiftRefused() {
        TwoElbows x = holding(0, 0);
        Scene.row(x, 0, 0, 1, 2, 3);
        Scene.row(x, 1, 0, 7, 8);
        x.row(2, 1, 3);
        x.row(3, 4, 3);
        x.keep(4, 0);
        int[][] due = {
            {-1, 0, 1, 0, 1, BAD}, {6, 0, 1, 0, 1, BAD}, {0, 0, -1, 0, 1, BAD}, {0, 0, 6, 0, 1, BAD}, {5, 0, 6, 0, 1, BAD},
            {5, 0, 1, 0, 1, -11}, {0, 0, 5, 0, 1, -11}, {5, 0, 4, 0, 1, -11}, {4, 0, 5, 0, 1, -11}, {5, 0, 5, -1, 1, -11},
            {4, 0, 0, 0, 1, -12}, {0, 0, 4, 0, 1, -12}, {4, 0, 4, 0, 1, -12}, {0, 0, 2, 0, 1, -12}, {0, 0, 3, 0, 1, -12},
            {0, -1, 2, 0, 1, -12}, {2, 0, 0, 0, -1, -12},
            {0, -1, 1, 0, 1, -13}, {0, 0, 1, -1, 1, -13}, {0, 3, 1, 0, 1, -13}, {0, 0, 1, 2, 1, -13}, {0, 2, 1, 0, 2, -13},
            {0, 0, 1, 1, 2, -13}, {0, 4, 1, 0, 0, -13}, {0, 0, 1, 3, 0, -13}, {0, 0, 1, 0, -1, -13}, {0, 1, 1, 0, MAX, -13},
            {0, MAX, 1, 0, 1, -13}, {0, 0, 1, MAX, MAX, -13}, {0, MIN, 1, 0, 1, -13}, {0, 1, 1, 1, MIN, -13}, {0, 0, 1, 0, 3, -13},
        };
        for (int[] d : due) {
            String call = "shift(" + d[0] + ", " + d[1] + ", " + d[2] + ", " + d[3] + ", " + d[4] + ")";
            c.same(35, call, x.shift(d[0], d[1], d[2], d[3], d[4]), d[5]);
        }
        is(x, 1, 7, 8);
    }

    private void taken() {
        boolean[][] under = new boolean[8][8];
        int[][] chains = {{0}, {1, 0}, {2, 0}, {3, 2, 0}, {4, 1, 0}, {5, 3, 2, 0}, {6, 0}, {7, 4, 1, 0}};
        for (int kind = 0; kind < 8; kind++) {
            for (int k : chains[kind]) under[kind][k] = true;
        }
        TwoElbows x = new TwoElbows();
        for (int kind = 0; kind < 8; kind++) {
            x.body(kind);
            x.keep(2, kind);
            for (int k = 0; k < 8; k++) c.same(36, "KIND " + kind + " taken for " + k, x.taken(2, k), under[kind][k] ? kind : -12);
        }
        c.same(36, "k -1", x.taken(2, -1), BAD);
        c.same(36, "k 8", x.taken(2, 8), BAD);
        c.same(36, "shelf -1", x.taken(-1, 0), BAD);
        c.same(36, "shelf 6", x.taken(6, 0), BAD);
        c.same(36, "nothing there", x.taken(3, 0), -11);
        c.same(36, "nothing there, k 8", x.taken(3, 8), BAD);
        x.row(3, 0, 3);
        c.same(36, "a ROW", x.taken(3, 0), -12);
    }

    private void count() {
        TwoElbows x = Scene.of(111);
        c.same(37, "SITTERS", x.count(0), 1);
        c.same(37, "RESTS of one", x.count(1), 0);
        x = Scene.fought();
        c.same(37, "SITTERS", x.count(0), 2);
        c.same(37, "RESTS", x.count(1), 1);
        x.go(0, 3);
        c.same(37, "NOW", x.count(2), 3);
        c.same(37, "FIGHTS so far", x.count(3), 1);
        x.feed(1);
        c.same(37, "bytes", x.count(4), 1);
        x.mend(0, 0, 3);
        c.same(37, "changes", x.count(5), 1);
        x.undo();
        c.same(37, "changes", x.count(5), 0);
        x.body(7);
        c.same(37, "BODIES", x.count(6), 1);
        x.act(0, 3, 1);
        c.same(37, "bodies that ran", x.count(7), 14);
        c.same(37, "count(8)", x.count(8), BAD);
        c.same(37, "count(-1)", x.count(-1), BAD);
        TwoElbows y = Scene.of(1, 2, 3, 4, 5, 6, 7, 8);
        c.same(37, "RESTS", y.count(1), 7);
    }
}
