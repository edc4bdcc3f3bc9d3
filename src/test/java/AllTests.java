/** Runs every test of the project; arguments: the program's source, README.md, and how many random runs. */
public final class AllTests {
    private AllTests() {
    }

    public static void main(String[] arguments) throws Exception {
        Checks checks = new Checks();
        new SittersTest(checks).runAll();
        new HoursTest(checks).runAll();
        new ShelvesTest(checks).runAll();
        new EdgesTest(checks).runAll();
        new RefusalsTest(checks).runAll();
        checks.lookForGaps();
        new LanguageTest(checks).runAll();
        new SourceTest(checks).runAll(arguments[0]);
        new ReadmeTest(checks).runAll(arguments[1]);
        new GridRuns(checks).runAll();
        new RandomRuns(checks).runAll(Integer.parseInt(arguments[2]));
        checks.tell("tests");
        if (checks.failed() > 0) System.exit(1);
    }
}
