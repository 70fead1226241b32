import java.io.IOException;
import java.nio.file.Files;
import java.nio.file.Path;
import java.util.ArrayList;
import java.util.List;

/**
 * What the checks quote stands in the document, and no sentence of its description and its promises is left
 * without a check that quotes it, or a part of it.
 */
final class SentencesTest {
    private static final Path DOCUMENT = Path.of("../shared/DOC.md");
    /** Lead over from one part of the document to the next one, and ask for nothing. */
    private static final List<String> ASK_NOTHING = List.of("The constants:",
        "The constructor and the methods follow, a promise each: the signature, then what it does.");

    private SentencesTest() {
    }

    static void run() {
        String document;
        try {
            document = Files.readString(DOCUMENT);
        } catch (IOException unread) {
            System.out.println("not compared with the document: " + unread);
            return;
        }
        List<Checks.Quote> quotes = List.copyOf(Checks.quotes());
        Checks.promise(0);
        int start = document.indexOf("## Description");
        for (int promise = 0; promise <= 27; promise++) {
            int end = document.indexOf(promise == 27 ? "## Not promised" : "## Promise " + (promise + 1) + ":");
            compare(promise, start >= 0 && start < end ? document.substring(start, end) : "", quotes);
            start = end;
        }
        String told = inOneLine(document);
        for (Checks.Quote quote : quotes) {
            Checks.due("'" + quote.words() + "' in the document", told.contains(quote.words()) ? "stands" : "is wanting",
                "stands");
        }
    }

    private static String inOneLine(String text) {
        return text.replaceAll("\\s+", " ");
    }

    private static void compare(int promise, String section, List<Checks.Quote> quotes) {
        List<String> sentences = sentences(section);
        Checks.due("promise " + promise + " stands in the document", sentences.isEmpty() ? 0 : 1, 1);
        for (String sentence : sentences) {
            boolean quoted = ASK_NOTHING.contains(sentence);
            for (Checks.Quote quote : quotes) {
                boolean touches = sentence.contains(quote.words()) || quote.words().contains(sentence);
                quoted |= quote.promise() == promise && touches;
            }
            Checks.due("a check for '" + sentence + "' of " + promise, quoted ? "stands" : "is wanting", "stands");
        }
    }

    /** The parts of the section between full stops and semicolons, without headings and signatures. */
    private static List<String> sentences(String section) {
        List<String> sentences = new ArrayList<>();
        String[] lines = section.split("\n");
        for (int i = 1; i < lines.length; i++) {
            String line = inOneLine(lines[i]).trim().replaceFirst("^- ", "");
            boolean tells = !line.isEmpty() && !line.startsWith("#") && !line.startsWith("----")
                && !line.matches("`\\w* ?\\w+\\(.*\\)`");
            if (tells) {
                sentences.addAll(List.of(line.split("(?<=[.;]) ")));
            }
        }
        return sentences;
    }
}
