import java.nio.charset.StandardCharsets;
import java.nio.file.Files;
import java.nio.file.Path;
import java.util.TreeSet;

/**
 * For tests that go through the document sentence by sentence: the words of each one are told ahead of its
 * tests, must stand in the document just so, and are printed with an answer that is not as due.
 */
final class Sentences {
    private static final int NONE = LongProof.NONE;
    private static final Path DOCUMENT = Path.of("../shared/DOC.md");
    private static final TreeSet<Integer> quoted = new TreeSet<>();
    private static final String document = read();
    private static String part = "";
    private static String words = "";
    private static int answers = 1;

    private Sentences() {
    }

    /** Empty where there is none: then the answers alone are looked at. */
    private static String read() {
        try {
            return Files.readString(DOCUMENT, StandardCharsets.UTF_8);
        } catch (java.io.IOException unread) {
            System.out.println("no document at " + DOCUMENT + ": its words are not looked up");
            return "";
        }
    }

    /** What is said next is of this promise. */
    static void promise(int number) {
        quoted.add(number);
        if (document.isEmpty()) {
            return;
        }
        int start = document.indexOf("## Promise " + number + ":");
        int end = document.indexOf("\n## ", start);
        Told.due("promise " + number + " stands in the document", start >= 0 && end > start, true);
        part = start >= 0 && end > start ? document.substring(start, end) : "";
    }

    /** What is said next is of the terms, I to III, or of what stands ahead of them. */
    static void terms() {
        part = document.substring(0, Math.max(0, document.indexOf("## Promise 1:")));
    }

    static void says(String sentence) {
        Told.due("a test of: " + words, answers > 0, true);
        Told.due("the document says: " + sentence, document.isEmpty() || part.contains(sentence), true);
        words = sentence;
        answers = 0;
    }

    static void due(String call, long got, long want) {
        answers++;
        Told.due("[" + words + "] " + call, got, want);
    }

    static void due(String call, boolean got, boolean want) {
        due(call, got ? 1 : 0, want ? 1 : 0);
    }

    static void none(String call, long got) {
        due(call, got, NONE);
    }

    /** A text of which ^ marks the place of the fault; it is taken out ahead of the feeding. */
    static void fault(int kind, String marked) {
        int place = marked.indexOf('^');
        String text = marked.substring(0, place) + marked.substring(place + 1);
        LongProof x = new LongProof();
        due("proof() of " + text, Told.tell(x, text), NONE);
        due("fault(0) of " + text, x.fault(0), kind);
        due("fault(1) of " + text, x.fault(1), place);
    }

    /** A text without a fault. */
    static LongProof right(String text, int statements) {
        LongProof x = new LongProof();
        due("proof() of " + text, Told.tell(x, text), statements);
        due("fault(0) of " + text, x.fault(0), 0);
        due("fault(1) of " + text, x.fault(1), NONE);
        return x;
    }

    /** A text without a fault, its STATEMENTS not counted. */
    static LongProof of(String text) {
        LongProof x = new LongProof();
        due("proof() of " + text + " has no fault", Told.tell(x, text) != NONE, true);
        return x;
    }

    /** A text again and again: of the k-th one @ is the k-th letter and # is k. */
    static String many(int count, String one) {
        StringBuilder out = new StringBuilder();
        for (int k = 0; k < count; k++) {
            out.append(one.replace("@", "" + (char) ('a' + k % 26)).replace("#", "" + k));
        }
        return out.toString();
    }

    /** Ends the test; each promise from one to another must have been quoted. */
    static void close(int first, int last) {
        Told.due("a test of: " + words, answers > 0, true);
        for (int number = first; number <= last; number++) {
            Told.due("promise " + number + " is quoted", quoted.contains(number), true);
        }
        Told.close();
    }
}
