/** Counts and tells the checks; a failed one is printed with the promise that it belongs to. */
final class Checks {
    private static int promise = 0;
    private static int passed = 0;
    private static int failed = 0;

    private Checks() {
    }

    static void promise(int number) {
        promise = number;
    }

    static void due(String call, long got, long want) {
        due(call, Long.toString(got), Long.toString(want));
    }

    static void due(String call, String got, String want) {
        if (got.equals(want)) {
            passed++;
        } else {
            failed++;
            System.out.println("promise " + promise + ": " + call + " answered " + got + ", due is " + want);
        }
    }

    static int passed() {
        return passed;
    }

    static int failed() {
        return failed;
    }
}
