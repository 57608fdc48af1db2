/** Runs every test of the project; ends with exit code 1 if one fails. */
public final class AllTests {
    public static void main(String[] arguments) throws Exception {
        FaceTest.run();
        CourseTest.run();
        StepTest.run();
        RunTest.run();
        ResultTest.run();
        RankingTest.run();
        OutputTest.run();
        ProgramTest.run();
        UndoTest.run();
        ModelTest.run();
        System.out.println(Check.checks + " checks, " + Check.failures + " failures");
        System.exit(Check.failures == 0 ? 0 : 1);
    }
}
