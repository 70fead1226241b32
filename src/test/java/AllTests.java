/** Runs all tests of the project; ends with exit code 1 if a check fails. */
public final class AllTests {
    private AllTests() {
    }

    /** Far above what all tests take; a program whose call does not end is a failure, too. */
    private static final long MOST_MILLISECONDS = 300000;

    public static void main(String[] args) {
        endInAnyCase();
        FaceTest.run();
        RollsAndPalletsTest.run();
        ProgramTest.run();
        WrappingTest.run();
        PlansTest.run();
        RollEdgesTest.run();
        PalletEdgesTest.run();
        ProgramEdgesTest.run();
        TextEdgesTest.run();
        TurnEdgesTest.run();
        DoneEdgesTest.run();
        PlanEdgesTest.run();
        HistoryEdgesTest.run();
        ReadmeTest.run();
        SentencesTest.run();
        RandomRunsTest.run();
        System.out.println(Checks.passed() + " checks passed, " + Checks.failed() + " checks failed");
        System.exit(Checks.failed() == 0 && Checks.passed() > 0 ? 0 : 1);
    }

    private static void endInAnyCase() {
        Thread watchdog = new Thread(() -> {
            try {
                Thread.sleep(MOST_MILLISECONDS);
            } catch (InterruptedException ended) {
                return;
            }
            System.out.println("the tests do not end");
            System.exit(1);
        });
        watchdog.setDaemon(true);
        watchdog.start();
    }
}
