/** Runs every test of the project; ends with exit code 1 if one fails or if they do not end. */
public final class AllTests {
    private static final long MOST_MILLISECONDS = 300_000;

    public static void main(String[] arguments) throws Exception {
        watch();
        FaceTest.run();
        LanguageTest.run();
        CourseTest.run();
        StepTest.run();
        RunTest.run();
        ResultTest.run();
        RankingTest.run();
        OutputTest.run();
        ProgramTest.run();
        UndoTest.run();
        StageTest.run();
        CourseBoundaryTest.run();
        RunBoundaryTest.run();
        StepBoundaryTest.run();
        ResultBoundaryTest.run();
        RankingBoundaryTest.run();
        OutputBoundaryTest.run();
        ProgramBoundaryTest.run();
        UndoBoundaryTest.run();
        AnyCallTest.run();
        ReadmeTest.run();
        ModelTest.run();
        System.out.println(Check.checks + " checks, " + Check.failures + " failures");
        System.exit(Check.failures == 0 ? 0 : 1);
    }

    // A call that does not end would else keep the tests waiting.
    private static void watch() {
        Thread watch = new Thread(() -> {
            try {
                Thread.sleep(MOST_MILLISECONDS);
            } catch (InterruptedException e) {
                return;
            }
            System.out.println("the tests do not end");
            Runtime.getRuntime().halt(1);
        });
        watch.setDaemon(true);
        watch.start();
    }
}
