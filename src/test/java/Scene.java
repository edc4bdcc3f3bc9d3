/** Small helpers that the tests share: rows of sitters, laws and shelves made in one line. */
final class Scene {
    private Scene() {
    }

    static TwoElbows of(int... sitters) {
        TwoElbows x = new TwoElbows();
        for (int spr : sitters) x.sitter(spr);
        return x;
    }

    static int law(TwoElbows x, String text) {
        for (int k = 0; k < text.length(); k++) x.feed(text.charAt(k));
        return x.law();
    }

    /** A ROW of a sort with these elements. */
    static void row(TwoElbows x, int shelf, int sort, long... elements) {
        x.row(shelf, sort, elements.length);
        for (int i = 0; i < elements.length; i++) x.put(shelf, i, elements[i]);
    }

    static String times(String part, int n) {
        return part.repeat(n);
    }

    /**
     * Two sitters, one rest of 2 inches: the RIGHT one takes both (HOURS 0 and 1), then the LEFT one, stronger by 2
     * and facing PRIDE 1, wrests both in two FIGHTS (HOURS 2 and 3); nothing moves after.
     */
    static TwoElbows fought() {
        TwoElbows x = of(950, 931);
        law(x, "h<2?(p=3)*9;p");
        return x;
    }

    static void feed(TwoElbows x, String text) {
        for (int k = 0; k < text.length(); k++) x.feed(text.charAt(k));
    }

    /**
     * Of everything some, with NOW 0: four sitters, a law that hears coughs, changes that can be undone and done
     * again, a text on THE TAPE, a body of each KIND (7 on shelf 3), a trace, and rows of bytes (0: of sitters, 5),
     * shorts (1), booleans (2); nothing is on shelf 4.
     */
    static TwoElbows young() {
        TwoElbows x = of(950, 731, 462, 583);
        x.wide(0, 4);
        x.wide(1, 5);
        x.wide(5, 7);
        law(x, "p*2+c/9+i-z*7+m");
        x.hours(1, 304, 1);
        x.hours(2, 606, 2);
        x.hours(3, 1012, 3);
        x.hours(0, 2023, 1);
        for (int s = 0; s < 4; s++) {
            x.mend(s, 3, 10 - s);
            x.mend(s, 4, 20 + s);
        }
        x.mend(0, 0, 8);
        x.undo();
        feed(x, "s*2");
        for (int kind = 0; kind < 8; kind++) x.body(kind);
        x.act(7, 3, 5);
        row(x, 0, 0, 1, 2, 3, 4, 5, 6);
        row(x, 1, 1, 300, 2, 3);
        row(x, 2, 4, 1, 0, 1);
        x.keep(3, 7);
        row(x, 5, 0, 0, 1, 2, 0, 9);
        return x;
    }

    /** The young one behind five HOURS, with an image of the third. */
    static TwoElbows grown() {
        TwoElbows x = young();
        x.go(11, 3);
        x.image();
        x.go(12, 2);
        return x;
    }

    /** The grown one at the end: NOW is 24. */
    static TwoElbows old() {
        TwoElbows x = grown();
        x.go(13, 19);
        return x;
    }

    /** All eight sitters, NOW 0. */
    static TwoElbows eight() {
        return of(245, 371, 112, 934, 505, 360, 777, 999);
    }

    static TwoElbows eightLater() {
        TwoElbows x = eight();
        x.go(1, 1);
        return x;
    }

    /** The grown one with 50 bodies and 120 bytes on THE TAPE. */
    static TwoElbows filled() {
        TwoElbows x = grown();
        for (int k = 8; k < 50; k++) x.body(k % 8);
        feed(x, times("+s", 58) + "+");
        return x;
    }
}
