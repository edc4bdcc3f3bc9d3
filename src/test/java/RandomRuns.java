/** Runs of calls drawn from a fixed row of numbers: the program and PlainElbows must answer alike. */
final class RandomRuns {
    private static final int CALLS = 512;
    private static final int[] EXTREMES = {Integer.MIN_VALUE, Integer.MAX_VALUE, -100, -2, -1, 99, 1000, 65536};

    private final String[] names = Both.names();
    private final Checks checks;
    private long state = 1;
    private Both both;
    private PlainElbows y;

    RandomRuns(Checks checks) {
        this.checks = checks;
        checks.same(0, "both know 36 calls", Both.known(), 3636);
    }

    void runAll(int runs) throws Exception {
        for (int run = 1; run <= runs && checks.failed() == 0; run++) {
            state = 7919L * run;
            both = new Both(checks, "random run " + run);
            y = both.y;
            runOne(run);
        }
    }

    private void runOne(int run) throws Exception {
        int wild = run % 10 == 0 ? 50 : 3;
        begin(wild);
        while (both.calls() < CALLS) {
            String name = names[below(names.length)];
            if (name.equals("sitter") && below(4) > 0) name = "hours";
            if (name.equals("go") && below(3) > 0) name = "led";
            if (name.equals("law") || name.equals("feed") && below(3) == 0) tellLaw();
            else if (name.equals("judge") && y.men.size() > 1 && below(2) == 0) judgeWhatWas();
            else call(name, argumentsOf(name, wild));
        }
        tellTheEnd();
    }

    private void begin(int wild) throws Exception {
        int n = 1 + below(8);
        for (int k = 0; k < n; k++) call("sitter", below(1000));
        for (int k = 0; k < 2 * n; k++) call("hours", argumentsOf("hours", wild));
        for (int k = 0; k < 7; k++) call("wide", k, below(10));
        for (int k = 0; k < 2 * n; k++) call("mend", below(n), 3 + below(2), below(100));
        if (below(4) > 0) tellLaw();
        for (int shelf = 0; shelf < 3; shelf++) call("row", shelf, below(5) / 2, below(61));
    }

    /** All that can be asked without a change, so that hidden differences show. */
    private void tellTheEnd() throws Exception {
        for (int s = -1; s < 9; s++) {
            for (int what = -1; what < 9; what++) call("of", s, what);
            for (int h = 99; h < 125; h++) call("of", s, h);
            for (int what = -1; what < 6; what++) call("rest", s, what);
            call("count", s);
        }
        for (int hr = 0; hr < 240; hr++) {
            for (int what = 0; what < 3; what++) call("led", hr, what);
        }
        for (int shelf = 0; shelf < 6; shelf++) {
            for (int i = 0; i < 60; i++) call("element", shelf, i);
        }
        for (int i = 0; i < 25; i++) call("trace", i);
        for (int i = 0; i < 42; i++) call("undo");
        for (int i = 0; i < 42; i++) call("redo");
    }

    /** A row of what was, of any length (within a two, too), with one element that may be otherwise. */
    private void judgeWhatWas() throws Exception {
        int rest = below(y.men.size() - 1);
        int length = below(2 * y.now() + 4);
        call("row", 2, 0, length);
        for (int i = 0; i < length && i < 2 * y.now(); i++) call("put", 2, i, y.led(i / 2 * 10 + rest, i % 2));
        call("judge", 2, rest);
        if (length > 0) call("put", 2, below(length), below(4));
        call("judge", 2, rest);
    }

    private void tellLaw() throws Exception {
        if (below(12) == 0) {
            for (int k = 0; k < 122; k++) call("feed", below(2) == 0 ? 's' : "+*-&|;"  .charAt(below(6)));
            call("law");
            return;
        }
        StringBuilder text = new StringBuilder();
        int lines = 1 + below(3);
        for (int k = 0; k < lines; k++) {
            if (k > 0) text.append(';');
            if (k + 1 < lines || below(4) == 0) {
                expression(text, 2);
                text.append('?');
            }
            expression(text, 3);
        }
        if (below(5) == 0) text.setCharAt(below(text.length()), "sprijzmch0123456789()!-+*/%<=>&|?; x".charAt(below(36)));
        if (below(9) == 0) text.setLength(below(text.length()));
        if (text.length() > 119) text.setLength(119);
        for (int k = 0; k < text.length(); k++) call("feed", text.charAt(k));
        call("law");
    }

    private void expression(StringBuilder text, int depth) {
        int terms = 1 + below(3);
        for (int k = 0; k < terms; k++) {
            if (k > 0) text.append("|&<=>+-*/%+-*/".charAt(below(14)));
            operand(text, depth);
        }
    }

    private void operand(StringBuilder text, int depth) {
        int kind = below(depth > 0 ? 10 : 6);
        if (kind < 5) {
            text.append("sprijzmchcpi".charAt(below(12)));
        } else if (kind < 6) {
            text.append(below(3) == 0 ? below(10000) : below(20));
        } else if (kind < 8) {
            for (int n = below(5) == 0 ? 1 + below(8) : 1; n > 0; n--) text.append("!-".charAt(below(2)));
            operand(text, depth - 1);
        } else {
            text.append('(');
            expression(text, depth - 1);
            text.append(')');
        }
    }

    private long[] argumentsOf(String name, int wild) {
        long[] a = new long[Both.argumentsOf(name)];
        for (int k = 0; k < a.length; k++) a[k] = below(9);
        switch (name) {
            case "sitter": a[0] = below(1000); break;
            case "sitters": a[0] = below(6); a[1] = below(12) - 1; a[2] = 1 + below(8); break;
            case "wide": a[0] = below(7); a[1] = below(10); break;
            case "hours": a[1] = 100L * below(24) + below(24); a[2] = below(4); break;
            case "mend": a[1] = below(5); a[2] = below(a[1] < 3 ? 10 : 100); break;
            case "of": a[1] = below(2) == 0 ? below(9) : 99 + below(26); break;
            case "feed": a[0] = below(256); break;
            case "rest": a[0] = below(8); a[1] = below(5); break;
            case "strength": a[1] = a[0] - below(2); a[2] = below(100); break;
            case "go": a[0] = below(2) == 0 ? below(100) : seed(); a[1] = 1 + below(4); break;
            case "led": a[0] = below(240); a[1] = below(3); break;
            case "judge": a[0] = below(3); a[1] = below(7); break;
            case "then": a[0] = seed(); a[1] = below(25); a[2] = below(9) - 1; a[3] = below(2); break;
            case "quiet": case "change": a[0] = seed(); break;
            case "seat": case "wider": a[0] = seed(); break;
            case "both": a[1] = below(2); break;
            case "deals": a[1] = below(3); break;
            case "body": a[0] = below(8); break;
            case "act": a[0] = below(52); a[1] = below(4); a[2] = seed(); break;
            case "trace": a[0] = below(26); break;
            case "keep": a[0] = below(7); a[1] = below(12) - 1; break;
            case "row": a[0] = below(6); a[1] = below(5); a[2] = below(64) - 2; break;
            case "put": a[0] = below(6); a[1] = below(30); a[2] = below(3) == 0 ? next() : below(10); break;
            case "element": a[0] = below(6); a[1] = below(30); break;
            case "shift": a[0] = below(6); a[2] = below(3) == 0 ? a[0] : below(6); a[1] = below(20); a[3] = below(20);
                a[4] = below(20); break;
            case "taken": a[0] = below(6); break;
            case "count": a[0] = below(9); break;
            default: break;
        }
        for (int k = 0; k < a.length; k++) {
            if (below(100) < wild) a[k] = below(2) == 0 ? EXTREMES[below(EXTREMES.length)] : a[k] + below(40) - 20;
        }
        return a;
    }

    private void call(String name, long... a) throws Exception {
        both.call(name, a);
    }

    private long next() {
        state = state * 6364136223846793005L + 1442695040888963407L;
        return state;
    }

    private int seed() {
        return (int) (next() >>> 20);
    }

    private int below(int n) {
        return (int) ((next() >>> 33) % n);
    }
}
