import java.util.ArrayList;
import java.util.List;

/** Counts and tells the checks; a failed one is printed with the promise and the sentence that it belongs to. */
final class Checks {
    /** A sentence of the document, or a part of one, that checks rest on; 0 is what stands before the promises. */
    record Quote(int promise, String words) {
    }

    private static final List<Quote> QUOTES = new ArrayList<>();
    private static int promise = 0;
    private static String words = "";
    private static int passed = 0;
    private static int failed = 0;

    private Checks() {
    }

    static void promise(int number) {
        promise = number;
        words = "";
    }

    /** Tells what the checks that follow rest on; SentencesTest looks whether it stands in the document. */
    static void sentence(int number, String quoted) {
        promise = number;
        words = quoted;
        QUOTES.add(new Quote(number, quoted));
    }

    static List<Quote> quotes() {
        return QUOTES;
    }

    static void due(String call, long got, long want) {
        due(call, Long.toString(got), Long.toString(want));
    }

    static void due(String call, String got, String want) {
        if (got.equals(want)) {
            passed++;
        } else {
            failed++;
            String place = "promise " + promise + (words.isEmpty() ? "" : " (\"" + words + "\")");
            System.out.println(place + ": " + call + " answered " + got + ", due is " + want);
        }
    }

    static int passed() {
        return passed;
    }

    static int failed() {
        return failed;
    }
}
