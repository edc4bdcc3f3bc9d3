import java.util.function.Supplier;

/**
 * Each call that is refused, at the bound and just beyond it: its answer is the one that the document names first,
 * and nothing has changed. What is asked, in thought too, changes nothing either.
 */
final class RefusalsTest {
    private static final int BAD = -1, NOT = -2, FULL = -3, STATE = -5, VOID = -2000000000;
    private static final int MISSING = -11, UNLIKE = -12, NO_PLACE = -13, NO_SIZE = -14;
    private static final int MAX = Integer.MAX_VALUE, MIN = Integer.MIN_VALUE;
    private static final Supplier<TwoElbows> EMPTY = TwoElbows::new, YOUNG = Scene::young, GROWN = Scene::grown;
    private static final Supplier<TwoElbows> OLD = Scene::old, EIGHT = Scene::eight, FILLED = Scene::filled;
    private static final Supplier<TwoElbows> EIGHT_LATER = Scene::eightLater;
    private final Twin twin = new Twin();
    private final Checks c;

    RefusalsTest(Checks checks) {
        c = checks;
    }

    void runAll() {
        sitter();
        sitters();
        wide();
        hours();
        mend();
        of();
        feed();
        law();
        rest();
        strength();
        go();
        led();
        judge();
        match();
        then();
        quietAndChange();
        seat();
        wider();
        bothAndDeals();
        sell();
        imageAndBack();
        undoAndRedo();
        body();
        act();
        trace();
        keep();
        row();
        putAndElement();
        shift();
        taken();
        count();
    }

    /** The answer is the one that is due, and nothing has changed. */
    private void no(int promise, Supplier<TwoElbows> made, long due, String name, long... a) {
        String call = name + java.util.Arrays.toString(a);
        c.same(promise, call, Twin.ask(made.get(), name, a), due);
        c.same(promise, call + " changed something", twin.changes(made, name, a), 0);
    }

    /** Of arguments that are good, each one by one, then all, become ones that are not: each time that is due. */
    private void wrong(int promise, Supplier<TwoElbows> made, long due, String name, long[] good, long[]... beyond) {
        long[] all = good.clone();
        for (int k = 0; k < beyond.length; k++) {
            for (long v : beyond[k]) {
                long[] a = good.clone();
                a[k] = v;
                all[k] = v;
                no(promise, made, due, name, a);
            }
        }
        no(promise, made, due, name, all);
    }

    private static long[] l(long... a) {
        return a;
    }

    private void sitter() {
        for (Supplier<TwoElbows> made : java.util.List.of(EMPTY, YOUNG, GROWN, OLD, EIGHT, EIGHT_LATER)) {
            wrong(2, made, BAD, "sitter", l(0), l(-1, 1000, MIN, MAX));
        }
        for (int spr : new int[] {0, 999}) {
            no(2, GROWN, STATE, "sitter", spr);
            no(2, OLD, STATE, "sitter", spr);
            no(2, EIGHT, FULL, "sitter", spr);
            no(2, EIGHT_LATER, STATE, "sitter", spr);
        }
    }

    private void sitters() {
        for (Supplier<TwoElbows> made : java.util.List.of(EMPTY, YOUNG, GROWN, OLD, EIGHT, EIGHT_LATER)) {
            wrong(3, made, BAD, "sitters", l(0, 0, 1), l(-1, 6, MIN, MAX), l(), l(0, 9, -1, MIN, MAX));
            no(3, made, BAD, "sitters", 0, -1, 0);
            no(3, made, BAD, "sitters", 6, MAX, 1);
        }
        for (Supplier<TwoElbows> made : java.util.List.of(YOUNG, GROWN, OLD)) {
            for (int i : new int[] {0, -1, 3, MIN, MAX}) {
                for (int shelf = 1; shelf <= 3; shelf++) no(3, made, UNLIKE, "sitters", shelf, i, 8);
            }
            for (int shelf = 1; shelf <= 3; shelf++) no(3, made, BAD, "sitters", shelf, 0, 9);
        }
        for (Supplier<TwoElbows> made : java.util.List.of(GROWN, OLD)) {
            for (int i : new int[] {0, -1, 5, 6, MIN, MAX}) {
                no(3, made, STATE, "sitters", 0, i, 1);
                no(3, made, STATE, "sitters", 4, i, 8);
            }
        }
        noneCome();
    }

    private void noneCome() {
        for (int i : new int[] {-1, -3, 4, 5, 6, 60, MIN, MAX, MAX - 1, MAX - 2}) no(3, YOUNG, 0, "sitters", 0, i, 8);
        for (int i : new int[] {-1, 0, 1, 59, 60, MIN, MAX}) {
            no(3, YOUNG, 0, "sitters", 4, i, 8);
            no(3, EMPTY, 0, "sitters", 5, i, 1);
        }
        no(3, EIGHT, 0, "sitters", 0, 0, 1);
        Supplier<TwoElbows> full = () -> {
            TwoElbows x = Scene.eight();
            Scene.row(x, 0, 0, 1, 2, 3);
            return x;
        };
        no(3, full, 0, "sitters", 0, 0, 1);
        no(3, full, 0, "sitters", 0, 0, 8);
    }

    private void wide() {
        for (Supplier<TwoElbows> made : java.util.List.of(EMPTY, YOUNG, GROWN, OLD)) {
            wrong(4, made, BAD, "wide", l(0, 0), l(-1, 7, MIN, MAX), l(-1, 10, MIN, MAX));
            wrong(4, made, BAD, "wide", l(6, 9), l(-1, 7), l(-1, 10));
        }
    }

    private void hours() {
        long[] noTimes = {-1, 24, 99, 100, 504, 524, 2322, 2324, 2400, 2423, 2424, -100, -2323, MIN, MAX};
        for (Supplier<TwoElbows> made : java.util.List.of(YOUNG, GROWN, OLD)) {
            wrong(5, made, BAD, "hours", l(0, 2323, 0), l(-1, 4, 8, MIN, MAX), noTimes, l(-1, 4, MIN, MAX));
            wrong(5, made, BAD, "hours", l(3, 2323, 3), l(-1, 4), l(-1, 2324), l(-1, 4));
        }
        for (int ft = 0; ft < 500; ft += 100) {
            no(5, GROWN, STATE, "hours", 0, ft + 4, 2);
            no(5, GROWN, STATE, "hours", 3, ft + 23, 3);
        }
        no(5, GROWN, BAD, "hours", 0, 404, 4);
        no(5, GROWN, BAD, "hours", 0, 424, 0);
        no(5, GROWN, BAD, "hours", 0, 403, 0);
        no(5, GROWN, BAD, "hours", 4, 404, 0);
        no(5, OLD, STATE, "hours", 0, 2323, 0);
        no(5, OLD, STATE, "hours", 0, 23, 0);
        no(5, EMPTY, BAD, "hours", 0, 0, 0);
    }

    private void mend() {
        for (Supplier<TwoElbows> made : java.util.List.of(YOUNG, GROWN, OLD)) {
            for (int what = 0; what < 5; what++) {
                wrong(6, made, BAD, "mend", l(0, what, 1), l(-1, 4, 8, MIN, MAX), l(-1, 5, MIN, MAX),
                    l(-1, what < 3 ? 10 : 100, MIN, MAX));
            }
        }
        no(6, EMPTY, BAD, "mend", 0, 0, 0);
        sameNumber();
    }

    /** Telling the same number is no change: what may be done again may be still. */
    private void sameNumber() {
        for (int s = 0; s < 4; s++) {
            for (int what = 0; what < 5; what++) {
                int is = Scene.grown().of(s, what);
                no(6, GROWN, is, "mend", s, what, is);
            }
        }
    }

    private void of() {
        for (Supplier<TwoElbows> made : java.util.List.of(YOUNG, GROWN, OLD)) {
            wrong(7, made, VOID, "of", l(0, 0), l(-1, 4, 8, MIN, MAX), l(-1, 8, 99, 124, MIN, MAX));
            wrong(7, made, VOID, "of", l(3, 123), l(-1, 4), l(-100, 200));
        }
        no(7, GROWN, Scene.grown().of(0, 5), "of", 0, 5);
        no(7, EMPTY, VOID, "of", 0, 0);
    }

    private void feed() {
        for (Supplier<TwoElbows> made : java.util.List.of(EMPTY, GROWN, FILLED)) {
            wrong(8, made, BAD, "feed", l(0), l(-1, 256, MIN, MAX));
        }
        no(8, FILLED, FULL, "feed", 0);
        no(8, FILLED, FULL, "feed", 255);
    }

    /** A FAULT changes THE TAPE alone: the same as if nothing had been fed, so that the law is as it was. */
    private void law() {
        Supplier<TwoElbows> emptied = () -> {
            TwoElbows x = Scene.grown();
            x.feed('?');
            x.law();
            return x;
        };
        no(9, emptied, -100, "law");
        c.same(9, "the strength by the law ahead of it", emptied.get().strength(0, 0, 50), Scene.grown().strength(0, 0, 50));
        c.same(9, "120 bytes that end too early", Scene.filled().law(), -220);
    }

    private void rest() {
        for (Supplier<TwoElbows> made : java.util.List.of(YOUNG, GROWN, OLD)) {
            wrong(10, made, BAD, "rest", l(0, 0), l(-1, 3, 6, 7, MIN, MAX), l(-1, 5, MIN, MAX));
            wrong(10, made, BAD, "rest", l(6, 4), l(-1, 7), l(-1, 0, 1, 2, 3, 5));
        }
        no(10, GROWN, 7, "rest", 5, 4);
        for (int what = 0; what < 4; what++) no(10, EMPTY, BAD, "rest", 0, what);
        no(10, EMPTY, 2, "rest", 6, 4);
    }

    private void strength() {
        for (Supplier<TwoElbows> made : java.util.List.of(YOUNG, GROWN)) {
            wrong(11, made, BAD, "strength", l(0, 0, 0), l(-1, 2, 4, MIN, MAX), l(-1, 1, MIN, MAX), l(-1, 100, MIN, MAX));
            wrong(11, made, BAD, "strength", l(3, 2, 99), l(1, 4), l(1, 3), l(-1, 100));
        }
        for (int s = 0; s < 4; s++) no(11, OLD, BAD, "strength", s, Math.max(0, s - 1), 0);
        for (int how = 0; how < 4; how++) {
            int way = how;
            Supplier<TwoElbows> made = () -> {
                TwoElbows x = Scene.grown();
                x.hours(1, 505, way);
                return x;
            };
            long due = way > 1 ? BAD : made.get().strength(1, 0, 0);
            no(11, made, due, "strength", 1, 0, 0);
            c.same(11, "another one at the same REST", made.get().strength(0, 0, 0) >= 0 ? 1 : 0, 1);
        }
    }

    private void go() {
        for (Supplier<TwoElbows> made : java.util.List.of(EMPTY, YOUNG, GROWN, OLD)) {
            wrong(12, made, BAD, "go", l(0, 1), l(), l(0, -1, 25, MIN, MAX));
        }
        no(12, GROWN, STATE, "go", 0, 20);
        no(12, GROWN, STATE, "go", 0, 24);
        no(12, OLD, STATE, "go", 0, 1);
        no(12, OLD, STATE, "go", 0, 24);
    }

    private void led() {
        for (Supplier<TwoElbows> made : java.util.List.of(GROWN, OLD)) {
            int now = made.get().count(2);
            wrong(13, made, BAD, "led", l(0, 0), l(-1, -10, 3, 6, 7, 8, 9, 10 * now, 10 * now + 2, MIN, MAX),
                l(-1, 3, MIN, MAX));
            wrong(13, made, BAD, "led", l(10 * now - 8, 2), l(10 * now - 7, 10 * now - 1), l(-1, 3));
            no(13, made, made.get().led(42, 1), "led", 42, 1);
        }
        for (int what = 0; what < 3; what++) {
            no(13, YOUNG, BAD, "led", 0, what);
            no(13, EMPTY, BAD, "led", 0, what);
        }
    }

    private void judge() {
        for (Supplier<TwoElbows> made : java.util.List.of(YOUNG, GROWN, OLD)) {
            wrong(14, made, BAD, "judge", l(0, 0), l(-1, 6, MIN, MAX), l(-1, 3, 6, 7, MIN, MAX));
            no(14, made, BAD, "judge", 4, 3);
            no(14, made, BAD, "judge", 1, -1);
            for (int rest = 0; rest < 3; rest++) {
                no(14, made, MISSING, "judge", 4, rest);
                for (int shelf = 1; shelf <= 3; shelf++) no(14, made, UNLIKE, "judge", shelf, rest);
            }
        }
        no(14, YOUNG, NOT, "judge", 0, 0);
        no(14, GROWN, 0, "judge", 0, 0);
        no(14, EMPTY, BAD, "judge", 0, 0);
    }

    private void match() {
        no(15, EMPTY, STATE, "match");
        no(15, YOUNG, STATE, "match");
        no(15, EIGHT, STATE, "match");
        no(15, GROWN, Scene.grown().match(), "match");
        no(15, OLD, NOT, "match");
    }

    private void then() {
        for (Supplier<TwoElbows> made : java.util.List.of(YOUNG, GROWN, OLD)) {
            wrong(16, made, VOID, "then", l(0, 0, 0, 0), l(), l(-1, 25, MIN, MAX), l(-2, 4, 8, MIN, MAX), l(-1, 2, MIN, MAX));
            wrong(16, made, VOID, "then", l(0, 0, -1, 0), l(), l(-1, 25), l(-2, 4), l(-1, 1, 2));
            wrong(16, made, VOID, "then", l(0, 24, 3, 1), l(), l(-1, 25), l(-1, 4), l(-1, 2));
        }
        for (int s = -1; s < 4; s++) {
            no(16, GROWN, STATE, "then", 0, 20, s, 0);
            no(16, GROWN, STATE, "then", 0, 24, s, 0);
            no(16, OLD, STATE, "then", 0, 1, s, 0);
            no(16, GROWN, Scene.grown().then(0, 19, s, 0), "then", 0, 19, s, 0);
        }
        no(16, OLD, 0, "then", 0, 0, -1, 0);
        no(16, EMPTY, VOID, "then", 0, 0, 0, 0);
    }

    private void quietAndChange() {
        for (Supplier<TwoElbows> made : java.util.List.of(YOUNG, GROWN, OLD)) {
            for (int seed : new int[] {0, -1, MIN, MAX}) {
                no(17, made, made.get().quiet(seed), "quiet", seed);
                no(19, made, made.get().change(seed), "change", seed);
            }
        }
        no(17, EMPTY, 0, "quiet", 0);
        no(19, EMPTY, NOT, "change", 0);
    }

    private void seat() {
        for (Supplier<TwoElbows> made : java.util.List.of(YOUNG, GROWN, OLD)) {
            wrong(18, made, BAD, "seat", l(0, 0), l(), l(-1, 4, 8, MIN, MAX));
            for (int s = 0; s < 4; s++) no(18, made, made.get().seat(MIN, s), "seat", MIN, s);
        }
        no(18, EMPTY, BAD, "seat", 0, 0);
        no(18, EIGHT, BAD, "seat", 0, 8);
    }

    private void wider() {
        for (Supplier<TwoElbows> made : java.util.List.of(YOUNG, GROWN, OLD)) {
            wrong(20, made, BAD, "wider", l(0, 0), l(), l(-1, 3, 6, 7, MIN, MAX));
            for (int rest = 0; rest < 3; rest++) no(20, made, 0, "wider", MAX, rest);
        }
        no(20, EMPTY, BAD, "wider", 0, 0);
        no(20, EIGHT, BAD, "wider", 0, 7);
    }

    private void bothAndDeals() {
        for (Supplier<TwoElbows> made : java.util.List.of(YOUNG, GROWN, OLD)) {
            wrong(21, made, BAD, "both", l(0, 0), l(-1, 3, 6, 7, MIN, MAX), l(-1, 2, MIN, MAX));
            wrong(21, made, BAD, "both", l(2, 1), l(-1, 3), l(-1, 2));
            wrong(22, made, VOID, "deals", l(0, 0), l(-1, 3, 6, 7, MIN, MAX), l(-1, 3, MIN, MAX));
            wrong(22, made, VOID, "deals", l(2, 2), l(-1, 3), l(-1, 3));
            for (int what = 0; what < 3; what++) no(22, made, made.get().deals(1, what), "deals", 1, what);
            for (int what = 0; what < 2; what++) no(21, made, made.get().both(1, what), "both", 1, what);
        }
        no(21, EMPTY, BAD, "both", 0, 0);
        no(22, EMPTY, VOID, "deals", 0, 0);
    }

    private void sell() {
        for (Supplier<TwoElbows> made : java.util.List.of(YOUNG, GROWN, OLD)) {
            wrong(23, made, BAD, "sell", l(0), l(-1, 3, 6, 7, MIN, MAX));
        }
        for (int rest = 0; rest < 3; rest++) no(23, YOUNG, 0, "sell", rest);
        no(23, EMPTY, BAD, "sell", 0);
        no(23, EIGHT, BAD, "sell", 7);
    }

    private void imageAndBack() {
        for (Supplier<TwoElbows> made : java.util.List.of(EMPTY, YOUNG, EIGHT)) no(25, made, STATE, "back");
        Supplier<TwoElbows> laidBack = () -> {
            TwoElbows x = Scene.old();
            x.back();
            return x;
        };
        no(25, laidBack, 3, "back");
        no(24, laidBack, 3, "image");
    }

    private void undoAndRedo() {
        for (Supplier<TwoElbows> made : java.util.List.of(EMPTY, EIGHT)) {
            no(26, made, STATE, "undo");
            no(27, made, STATE, "redo");
        }
        Supplier<TwoElbows> allUndone = () -> {
            TwoElbows x = Scene.grown();
            for (int k = 0; k < 8; k++) x.undo();
            return x;
        };
        no(26, allUndone, STATE, "undo");
        Supplier<TwoElbows> allDone = () -> {
            TwoElbows x = Scene.grown();
            x.redo();
            return x;
        };
        no(27, allDone, STATE, "redo");
    }

    private void body() {
        for (Supplier<TwoElbows> made : java.util.List.of(EMPTY, GROWN, FILLED)) {
            wrong(28, made, BAD, "body", l(0), l(-1, 8, MIN, MAX));
        }
        for (int kind = 0; kind < 8; kind++) no(28, FILLED, FULL, "body", kind);
    }

    /** What is no ACT of a HOLDING empties THE TRACE, and changes nothing else: behind another such, nothing at all. */
    private void act() {
        Supplier<TwoElbows> noTrace = () -> {
            TwoElbows x = Scene.grown();
            x.act(8, 0, 1);
            return x;
        };
        c.same(29, "no TRACE", noTrace.get().trace(0), BAD);
        c.same(29, "none ran", noTrace.get().count(7), 0);
        wrong(29, noTrace, 0, "act", l(0, 0, 5), l(-1, 8, 50, MIN, MAX), l(-1, 4, MIN, MAX), l());
        wrong(29, EMPTY, 0, "act", l(0, 0, 5), l(-1, 0, 50), l(-1, 3, 4), l());
        no(29, GROWN, Scene.grown().act(7, 3, 5), "act", 7, 3, 5);
    }

    private void trace() {
        wrong(30, GROWN, BAD, "trace", l(0), l(-1, 14, 23, 24, MIN, MAX));
        no(30, GROWN, 81, "trace", 0);
        no(30, GROWN, 1, "trace", 13);
        no(30, EMPTY, BAD, "trace", 0);
    }

    private void keep() {
        for (Supplier<TwoElbows> made : java.util.List.of(YOUNG, GROWN, OLD)) {
            wrong(31, made, BAD, "keep", l(0, 0), l(-1, 6, MIN, MAX), l(-2, 8, 49, 50, MIN, MAX));
            wrong(31, made, BAD, "keep", l(5, -1), l(-1, 6), l(-2, 8));
        }
        no(31, FILLED, BAD, "keep", 0, 50);
        no(31, EMPTY, BAD, "keep", 0, 0);
        no(31, EMPTY, 1, "keep", 0, -1);
        no(31, GROWN, 1, "keep", 3, 7);
    }

    private void row() {
        for (Supplier<TwoElbows> made : java.util.List.of(EMPTY, GROWN)) {
            wrong(32, made, BAD, "row", l(0, 0, 0), l(-1, 6, MIN, MAX), l(-1, 5, MIN, MAX), l(61, 62, MAX));
            wrong(32, made, BAD, "row", l(5, 4, 60), l(-1, 6), l(-1, 5), l(61, 61));
            wrong(32, made, BAD, "row", l(6, 4, -1), l(-1, 6), l(-1, 5), l(-1, MIN));
            for (int sort = 0; sort < 5; sort++) {
                for (int n : new int[] {-1, -60, -61, MIN}) no(32, made, NO_SIZE, "row", sort, sort, n);
            }
            no(32, made, BAD, "row", 0, 5, -1);
            no(32, made, BAD, "row", 0, -1, -1);
        }
    }

    private void putAndElement() {
        long[] noPlaces = {-1, 60, MIN, MAX};
        for (Supplier<TwoElbows> made : java.util.List.of(EMPTY, GROWN)) {
            wrong(33, made, BAD, "put", l(-1, 0, 1), l(-1, 6, MIN, MAX), noPlaces, l(Long.MIN_VALUE, Long.MAX_VALUE));
            wrong(33, made, MISSING, "put", l(4, 0, 1), l(), noPlaces, l(Long.MIN_VALUE, Long.MAX_VALUE));
            wrong(34, made, Long.MIN_VALUE, "element", l(-1, 0), l(-1, 6, MIN, MAX), noPlaces);
            wrong(34, made, Long.MIN_VALUE, "element", l(4, 0), l(), noPlaces);
        }
        wrong(33, GROWN, UNLIKE, "put", l(3, 0, 1), l(), noPlaces, l(0));
        wrong(34, GROWN, Long.MIN_VALUE, "element", l(3, 0), l(), noPlaces);
        int[] lengths = {6, 3, 3, -1, -1, 5};
        for (int shelf = 0; shelf < 6; shelf++) {
            if (lengths[shelf] < 0) continue;
            for (long i : new long[] {-1, lengths[shelf], 59, 60, MIN, MAX}) {
                no(33, GROWN, NO_PLACE, "put", shelf, i, 1);
                no(34, GROWN, Long.MIN_VALUE, "element", shelf, i);
            }
        }
        no(34, GROWN, 6, "element", 0, 5);
    }

    private void shift() {
        long[] noShelves = {-1, 6, MIN, MAX};
        for (Supplier<TwoElbows> made : java.util.List.of(EMPTY, GROWN)) {
            wrong(35, made, BAD, "shift", l(6, 0, 6, 0, 1), noShelves, l(-1), noShelves, l(-1), l(-1));
            for (int shelf = 0; shelf < 6; shelf++) {
                no(35, made, BAD, "shift", shelf, -1, 6, 0, 1);
                no(35, made, BAD, "shift", -1, 0, shelf, -1, -1);
                wrong(35, made, MISSING, "shift", l(shelf, 0, 4, 0, 0), l(), l(-1, 60), l(), l(-1, 60), l(-1, 61));
                wrong(35, made, MISSING, "shift", l(4, 0, shelf, 0, 0), l(), l(-1, 60), l(), l(-1, 60), l(-1, 61));
            }
        }
        int[] sorts = {0, 1, 4, -1, -2, 0};
        for (int a = 0; a < 6; a++) {
            for (int b = 0; b < 6; b++) {
                if (a == 4 || b == 4 || sorts[a] == sorts[b] && sorts[a] >= 0) continue;
                wrong(35, GROWN, UNLIKE, "shift", l(a, 0, b, 0, 0), l(), l(-1, 60), l(), l(-1, 60), l(-1, 61));
            }
        }
        shiftPlaces();
    }

    private void shiftPlaces() {
        wrong(35, GROWN, NO_PLACE, "shift", l(0, 0, 5, 0, 5), l(), l(-1, 2, MIN, MAX), l(), l(-1, 1, MIN, MAX),
            l(-1, 6, MIN, MAX));
        wrong(35, GROWN, NO_PLACE, "shift", l(5, 0, 0, 1, 5), l(), l(-1, 1), l(), l(-1, 2), l(-1, 6));
        wrong(35, GROWN, NO_PLACE, "shift", l(0, 6, 5, 5, 0), l(), l(-1, 7, MIN, MAX), l(), l(-1, 6, MIN, MAX),
            l(-1, 1, MIN, MAX));
        no(35, GROWN, 0, "shift", 0, 6, 5, 5, 0);
        no(35, GROWN, 0, "shift", 0, 0, 5, 0, 0);
        no(35, GROWN, 6, "shift", 0, 0, 0, 0, 6);
    }

    private void taken() {
        for (Supplier<TwoElbows> made : java.util.List.of(EMPTY, GROWN)) {
            wrong(36, made, BAD, "taken", l(6, 0), l(-1, 6, MIN, MAX), l(-1, 8, MIN, MAX));
            wrong(36, made, BAD, "taken", l(4, 8), l(0, 3), l(-1, 8, MIN, MAX));
        }
        for (int k = 0; k < 8; k++) {
            no(36, GROWN, MISSING, "taken", 4, k);
            for (int shelf = 0; shelf < 3; shelf++) no(36, GROWN, UNLIKE, "taken", shelf, k);
            no(36, GROWN, k == 7 || k == 4 || k == 1 || k == 0 ? 7 : UNLIKE, "taken", 3, k);
        }
    }

    private void count() {
        wrong(37, GROWN, BAD, "count", l(0), l(-1, 8, MIN, MAX));
        wrong(37, EMPTY, BAD, "count", l(0), l(-1, 8, MIN, MAX));
        for (int what = 0; what < 8; what++) no(37, GROWN, Scene.grown().count(what), "count", what);
    }
}
