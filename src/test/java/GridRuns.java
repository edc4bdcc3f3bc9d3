import java.util.List;
import java.util.Map;

/**
 * Every call with every choice of arguments at its bounds and just beyond them, in scenes young and old: the program
 * and PlainElbows must answer alike, and be alike behind what was done.
 */
final class GridRuns {
    private static final long MAX = Integer.MAX_VALUE, MIN = Integer.MIN_VALUE;
    private static final int MOST_CALLS = 512, TELLING = 150;
    private static final long[] SEEDS = {0, -1, 99, MIN};
    private static final long[] SITTERS = {MIN, -1, 0, 1, 3, 4, 7, 8, MAX};
    private static final long[] RESTS = {MIN, -1, 0, 2, 3, 6, 7, MAX};
    private static final long[] SHELVES = {-1, 0, 1, 2, 3, 4, 5, 6, MAX};
    private static final long[] PLACES = {MIN, -1, 0, 1, 5, 6, 60, MAX};
    private static final long[] WHATS = {-1, 0, 1, 2, 3, 4, 5, 7, 8};
    private static final long[] NONE = {};

    private static final Map<String, long[][]> ARGUMENTS = Map.ofEntries(
        Map.entry("sitter", new long[][] {{MIN, -1, 0, 9, 10, 99, 100, 998, 999, 1000, MAX}}),
        Map.entry("sitters", new long[][] {SHELVES, {MIN, -3, -1, 0, 1, 3, 4, 5, 6, 57, 58, MAX - 1, MAX}, {-1, 0, 1, 2, 7, 8, 9}}),
        Map.entry("wide", new long[][] {RESTS, {MIN, -1, 0, 1, 2, 3, 4, 5, 8, 9, 10, MAX}}),
        Map.entry("hours", new long[][] {SITTERS, {MIN, -1, 0, 23, 24, 100, 404, 405, 423, 504, 505, 523, 524, 2222, 2322, 2323,
            2324, 2400, 2424, MAX}, {-1, 0, 1, 2, 3, 4}}),
        Map.entry("mend", new long[][] {SITTERS, WHATS, {MIN, -1, 0, 1, 8, 9, 10, 98, 99, 100, MAX}}),
        Map.entry("of", new long[][] {SITTERS, {MIN, -1, 0, 1, 2, 3, 4, 5, 6, 7, 8, 99, 100, 101, 104, 105, 122, 123, 124, MAX}}),
        Map.entry("feed", new long[][] {{MIN, -1, 0, 1, 115, 127, 128, 254, 255, 256, MAX}}),
        Map.entry("law", new long[][] {}),
        Map.entry("rest", new long[][] {RESTS, WHATS}),
        Map.entry("strength", new long[][] {SITTERS, RESTS, {-1, 0, 50, 99, 100}}),
        Map.entry("go", new long[][] {SEEDS, {MIN, -1, 0, 1, 2, 18, 19, 20, 23, 24, 25, MAX}}),
        Map.entry("led", new long[][] {{MIN, -10, -1, 0, 2, 3, 6, 7, 9, 10, 40, 42, 43, 49, 50, 52, 230, 232, 233, 239, 240, MAX},
            {-1, 0, 1, 2, 3}}),
        Map.entry("judge", new long[][] {SHELVES, RESTS}),
        Map.entry("match", new long[][] {}),
        Map.entry("then", new long[][] {SEEDS, {MIN, -1, 0, 1, 18, 19, 20, 23, 24, 25, MAX}, {MIN, -2, -1, 0, 3, 4, 7, 8}, {-1, 0, 1, 2}}),
        Map.entry("quiet", new long[][] {SEEDS}),
        Map.entry("seat", new long[][] {SEEDS, SITTERS}),
        Map.entry("change", new long[][] {SEEDS}),
        Map.entry("wider", new long[][] {SEEDS, RESTS}),
        Map.entry("both", new long[][] {RESTS, {-1, 0, 1, 2}}),
        Map.entry("deals", new long[][] {RESTS, {-1, 0, 1, 2, 3}}),
        Map.entry("sell", new long[][] {RESTS}),
        Map.entry("image", new long[][] {}),
        Map.entry("back", new long[][] {}),
        Map.entry("undo", new long[][] {}),
        Map.entry("redo", new long[][] {}),
        Map.entry("body", new long[][] {{MIN, -1, 0, 1, 6, 7, 8, MAX}}),
        Map.entry("act", new long[][] {{MIN, -1, 0, 1, 2, 3, 4, 5, 6, 7, 8, 49, 50, MAX}, {MIN, -1, 0, 1, 2, 3, 4, MAX}, {MIN, -1, 0, MAX}}),
        Map.entry("trace", new long[][] {{MIN, -1, 0, 1, 12, 13, 14, 23, 24, MAX}}),
        Map.entry("keep", new long[][] {SHELVES, {MIN, -2, -1, 0, 7, 8, 49, 50, MAX}}),
        Map.entry("row", new long[][] {SHELVES, {-1, 0, 1, 2, 3, 4, 5}, {MIN, -1, 0, 1, 59, 60, 61, MAX}}),
        Map.entry("put", new long[][] {SHELVES, PLACES, {Long.MIN_VALUE, -129, -1, 0, 1, 127, 128, 256, 32768, MIN, MAX, Long.MAX_VALUE}}),
        Map.entry("element", new long[][] {SHELVES, PLACES}),
        Map.entry("shift", new long[][] {SHELVES, {-1, 0, 1, 6, MAX}, SHELVES, {MIN, 0, 2, 5}, {MIN, -1, 0, 1, 3, 5, 6, 60, MAX}}),
        Map.entry("taken", new long[][] {SHELVES, {MIN, -1, 0, 1, 2, 3, 4, 5, 6, 7, 8, MAX}}),
        Map.entry("count", new long[][] {{MIN, -1, 0, 1, 2, 3, 4, 5, 6, 7, 8, MAX}}));

    private enum Stage { EMPTY, YOUNG, GROWN, OLD, EIGHT, LATER, FILLED }

    private final Checks checks;

    GridRuns(Checks checks) {
        this.checks = checks;
    }

    void runAll() throws Exception {
        for (String name : Both.names()) {
            checks.same(0, "the grid of " + name, ARGUMENTS.get(name).length, Both.argumentsOf(name));
            for (Stage stage : Stage.values()) runOne(name, stage);
        }
    }

    private void runOne(String name, Stage stage) throws Exception {
        if (name.equals("shift") && !List.of(Stage.EMPTY, Stage.GROWN).contains(stage)) return;
        long[][] choices = ARGUMENTS.get(name);
        int all = 1;
        for (long[] choice : choices) all *= choice.length;
        Both both = null;
        for (int n = 0; n < all; n++) {
            long[] a = new long[choices.length];
            for (int k = 0, left = n; k < a.length; k++) {
                a[k] = choices[k][left % choices[k].length];
                left /= choices[k].length;
            }
            if (both == null || both.calls() > MOST_CALLS - TELLING) both = scene(stage);
            long answer = both.call(name, a);
            if (isRefusal(answer)) continue;
            tell(both);
            both = null;
        }
        if (both != null) tell(both);
    }

    private static boolean isRefusal(long answer) {
        return answer <= -1 && answer >= -14 || answer == TwoElbows.VOID || answer == Long.MIN_VALUE;
    }

    /** What a call may have changed, as far as it can be asked in few calls. */
    private static void tell(Both both) throws Exception {
        for (int k = 0; k < 8; k++) {
            for (int what = 0; what < 8; what++) both.call("of", k, what);
            for (int what = 1; what < 5; what++) both.call("rest", k, what);
            both.call("count", k);
            both.call("trace", k);
            both.call("of", k, 123);
        }
        for (int i = 0; i < 6; i++) both.call("element", 5, i);
        both.call("led", 40, 0);
        both.call("undo");
        both.call("of", 0, 0);
        both.call("redo");
        both.call("redo");
        both.call("of", 0, 0);
        both.call("back");
        both.call("rest", 0, 1);
        both.call("match");
    }

    private Both scene(Stage stage) throws Exception {
        Both both = new Both(checks, "grid of " + stage);
        if (stage == Stage.EMPTY) return both;
        if (stage == Stage.EIGHT || stage == Stage.LATER) {
            for (int spr : new int[] {245, 371, 112, 934, 505, 360, 777, 999}) both.call("sitter", spr);
            both.row(0, 0, 1, 2, 3);
            if (stage == Stage.LATER) both.call("go", 1, 1);
            return both;
        }
        begin(both);
        if (stage != Stage.YOUNG) {
            both.call("go", 11, 3);
            both.call("image");
            both.call("go", 12, 2);
        }
        if (stage == Stage.OLD) both.call("go", 13, 19);
        if (stage == Stage.FILLED) {
            for (int k = 8; k < 50; k++) both.call("body", k % 8);
            both.feed("+s".repeat(58) + "+");
        }
        return both;
    }

    /** As Scene.young(). */
    private static void begin(Both both) throws Exception {
        for (int spr : new int[] {950, 731, 462, 583}) both.call("sitter", spr);
        both.call("wide", 0, 4);
        both.call("wide", 1, 5);
        both.call("wide", 5, 7);
        both.law("p*2+c/9+i-z*7+m");
        both.call("hours", 1, 304, 1);
        both.call("hours", 2, 606, 2);
        both.call("hours", 3, 1012, 3);
        both.call("hours", 0, 2023, 1);
        for (int s = 0; s < 4; s++) {
            both.call("mend", s, 3, 10 - s);
            both.call("mend", s, 4, 20 + s);
        }
        both.call("mend", 0, 0, 8);
        both.call("undo");
        both.feed("s*2");
        for (int kind = 0; kind < 8; kind++) both.call("body", kind);
        both.call("act", 7, 3, 5);
        both.row(0, 0, 1, 2, 3, 4, 5, 6);
        both.row(1, 1, 300, 2, 3);
        both.row(2, 4, 1, 0, 1);
        both.call("keep", 3, 7);
        both.row(5, 0, 0, 1, 2, 0, 9);
    }
}
