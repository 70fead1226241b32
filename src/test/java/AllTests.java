/** Runs all tests of the project; ends with exit code 1 if a check fails. */
public final class AllTests {
    private AllTests() {
    }

    public static void main(String[] args) {
        FaceTest.run();
        RollsAndPalletsTest.run();
        ProgramTest.run();
        WrappingTest.run();
        PlansTest.run();
        RollEdgesTest.run();
        PalletEdgesTest.run();
        ProgramEdgesTest.run();
        TextEdgesTest.run();
        TurnEdgesTest.run();
        DoneEdgesTest.run();
        PlanEdgesTest.run();
        HistoryEdgesTest.run();
        SentencesTest.run();
        RandomRunsTest.run();
        System.out.println(Checks.passed() + " checks passed, " + Checks.failed() + " checks failed");
        System.exit(Checks.failed() == 0 && Checks.passed() > 0 ? 0 : 1);
    }
}
