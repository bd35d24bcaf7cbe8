import java.io.IOException;
import java.nio.file.Files;
import java.nio.file.Path;
import java.util.ArrayList;
import java.util.List;

/** The document's words by sections, and which of them some test has quoted. */
final class Doc {
    private static final Path FILE = Path.of("../shared/DOC.md");
    private static final int PROMISES = 32;

    private static final String TEXT = read();
    private static final boolean[] QUOTED = new boolean[TEXT.length()];
    private static final List<String> NOT_THERE = new ArrayList<>();
    private static String name = "";
    private static int from;
    private static int to;

    private Doc() {
    }

    /** Without its line ends and code marks, so that a quote may go over several lines; empty without a document. */
    private static String read() {
        if (!Files.isReadable(FILE)) {
            return "";
        }
        try {
            return Files.readString(FILE).replace("```text", " ").replace("```", " ").replaceAll("\\s+", " ");
        } catch (IOException e) {
            return "";
        }
    }

    static void terms(int part) {
        String[] marks = {"## Terms", "==== II. ", "==== III. ", "The constants: "};
        enter("Terms " + part, marks[part - 1], marks[part]);
    }

    static void promise(int number) {
        String start = "## Promise " + number + ":";
        enter("Promise " + number, start, number < PROMISES ? "## Promise " + (number + 1) + ":" : "## Not promised");
        int signatureEnd = TEXT.indexOf("`: ", from);
        if (signatureEnd >= 0 && signatureEnd < to) {
            mark(from, signatureEnd);
        }
    }

    private static void enter(String section, String start, String end) {
        name = section;
        from = Math.max(0, TEXT.indexOf(start));
        to = Math.max(from, TEXT.indexOf(end, from + start.length()));
        if (part(start, from)) {
            mark(from, from + start.length());
        }
    }

    private static boolean part(String quote, int at) {
        return TEXT.startsWith(quote, at);
    }

    private static void mark(int first, int behind) {
        for (int i = first; i < behind; i++) {
            QUOTED[i] = true;
        }
    }

    /** The section and the words that the checks behind this call hold the program to. */
    static String quote(String words) {
        boolean found = TEXT.isEmpty();
        for (int at = from; at + words.length() <= to; at++) {
            if (part(words, at)) {
                mark(at, at + words.length());
                found = true;
            }
        }
        if (!found) {
            NOT_THERE.add(name + " has no \"" + words + "\"");
        }
        return name + ", \"" + words + "\"";
    }

    /** Quotes that are not the document's, and words of its terms and promises that no test quotes. */
    static List<String> faults() {
        List<String> all = new ArrayList<>(NOT_THERE);
        int begin = Math.max(0, TEXT.indexOf("## Terms"));
        int end = Math.max(begin, TEXT.indexOf("## Not promised"));
        int constants = TEXT.indexOf("The constants: ");
        int promises = TEXT.indexOf("## Promise 1:");
        StringBuilder open = new StringBuilder();
        for (int i = begin; i < end; i++) {
            boolean free = QUOTED[i] || i >= constants && i < promises;
            if (!free) {
                open.append(TEXT.charAt(i));
            }
            if (free || i == end - 1) {
                if (open.chars().anyMatch(Character::isLetterOrDigit)) {
                    all.add("no test quotes \"" + open.toString().trim() + "\"");
                }
                open.setLength(0);
            }
        }
        return all;
    }
}
