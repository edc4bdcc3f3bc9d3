/** Small helpers that the tests share: rows of sitters, laws and shelves made in one line. */
final class Scene {
    private Scene() {
    }

    static TwoElbows of(int... sitters) {
        TwoElbows x = new TwoElbows();
        for (int spr : sitters) x.sitter(spr);
        return x;
    }

    static int law(TwoElbows x, String text) {
        for (int k = 0; k < text.length(); k++) x.feed(text.charAt(k));
        return x.law();
    }

    /** A ROW of a sort with these elements. */
    static void row(TwoElbows x, int shelf, int sort, long... elements) {
        x.row(shelf, sort, elements.length);
        for (int i = 0; i < elements.length; i++) x.put(shelf, i, elements[i]);
    }

    static String times(String part, int n) {
        return part.repeat(n);
    }

    /**
     * Two sitters, one rest of 2 inches: the RIGHT one takes both (HOURS 0 and 1), then the LEFT one, stronger by 2
     * and facing PRIDE 1, wrests both in two FIGHTS (HOURS 2 and 3); nothing moves after.
     */
    static TwoElbows fought() {
        TwoElbows x = of(950, 931);
        law(x, "h<2?(p=3)*9;p");
        return x;
    }
}
