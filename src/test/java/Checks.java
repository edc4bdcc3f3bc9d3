/** Counts what was checked, and prints each answer that is not the one that is due. */
final class Checks {
    private static final int MOST_PRINTED = 40;

    private int passed = 0;
    private int failed = 0;
    private final boolean[] seen = new boolean[38];

    void same(int promise, String call, long got, long want) {
        seen[promise] = true;
        if (got == want) {
            passed++;
            return;
        }
        failed++;
        if (failed <= MOST_PRINTED) {
            System.out.println("promise " + promise + ": " + call + " answered " + got + ", due is " + want);
        }
    }

    void countOne() {
        passed++;
    }

    int failed() {
        return failed;
    }

    /** Fails for each promise 1 .. 37 without a check. */
    void lookForGaps() {
        for (int promise = 1; promise <= 37; promise++) {
            if (!seen[promise]) same(promise, "a check", 0, 1);
        }
    }

    void tell(String what) {
        System.out.println(what + ": " + passed + " passed, " + failed + " failed");
    }
}
