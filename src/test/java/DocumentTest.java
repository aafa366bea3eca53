import java.io.IOException;
import java.nio.file.DirectoryStream;
import java.nio.file.Files;
import java.nio.file.Path;
import java.util.ArrayList;
import java.util.List;
import java.util.regex.Matcher;
import java.util.regex.Pattern;

/**
 * Each sentence of the document is quoted by a test, which calls the method named sentence before its
 * checks, or stands in the list below because it names no boundary. So a sentence that nothing tests
 * is told here.
 */
public final class DocumentTest {
    private static final Path DOCUMENT = Path.of("../shared/DOC.md");
    private static final Path TESTS = Path.of("src/test/java");
    private static final char QUOTED = '\u0001';

    private static final String[] NO_BOUNDARY = {
        "The class reads a board from a text, simulates clock steps with three-valued logic, computes the schedule of a step, "
            + "the best move of a gate and the fewest pins, finds periods, checks given sequences, infers a stuck gate from "
            + "observations, and computes shares and probabilities.",
        "Logic emulation on several chips (virtual wires): gates and registers are placed on chips in a line, and values "
            + "travel between neighboring chips over few pins, slot by slot, as soon as they are available.",
        "It tells when the value of a gate is available on a chip.",
        "In each slot, the following is done:",
        "The constants: - `UNKNOWN = -1, OUTSIDE = -2, STATE = -3, FULL = -4, NONE = -9`: UNKNOWN, OUTSIDE, STATE, FULL: error "
            + "codes; NONE: there is none; see the class description.",
        "The constructor and the methods follow, a promise each: the signature, then what it does.",
        "Checks the text.",
        "Returns a property of a gate.",
        "Sets the value of an input.",
        "Sets the number of pins.",
        "Returns the value that a gate would have after n steps.",
        "Returns a property of the schedule.",
        "With the digits of a statement being k, a and b, and ab the number 10 * a + b, the statements are:",
        "Records an observation of the board with an unknown stuck gate: after n steps, a gate has a certain value, or has "
            + "not.",
        "A fraction.",
        "Returns a number.",
        "- `gate`: the gate",
        "- `chip`: the chip",
        "- `upper`: true for the numerator, false for the denominator",
        "- `what`:",
        "How the state is held inside the object is free, as are the speed of each call, the text of toString and the behaviour "
            + "of equals and hashCode.",
        "Use of one object from several threads at once is not promised to be safe.",
        ", and nothing about an object after its 512th call.",
        "---- the board", "---- acts", "---- periods, schedules, judgements", "---- observations", "---- shares, chances",
        "---- slots to keep in, counts"};

    private DocumentTest() {
    }

    public static void main(String[] args) throws IOException {
        if (!Files.isReadable(DOCUMENT)) {
            System.out.println(DOCUMENT + " is not there: nothing to compare the tests with");
            return;
        }
        String document = bare(Files.readString(DOCUMENT));
        StringBuilder rest = new StringBuilder(document);
        for (String quote : quotes()) {
            Check.isTrue("the document does not say: " + quote, blank(rest, document, quote));
        }
        for (String passage : NO_BOUNDARY) {
            blank(rest, document, passage);
        }
        for (String left : rest.toString().split(QUOTED + "+")) {
            Check.isTrue("no test quotes: " + left.trim(), !left.matches(".*[A-Za-z0-9].*"));
        }
        Check.finish();
    }

    /** The document without its headings and signatures, which LanguageTest compares, with single blanks. */
    private static String bare(String document) {
        String text = document.replaceAll("(?s)```.*?```", " ").replaceAll("(?m)^#.*$", " ");
        text = text.replaceAll("(?m)^[A-Z ]+$", " ").replaceAll("(?m)^`[a-zA-Z ]*\\([a-z, ]*\\)`$", " ");
        return text.replaceAll("\\s+", " ");
    }

    private static boolean blank(StringBuilder rest, String document, String words) {
        int at = document.indexOf(words);
        boolean found = at >= 0;
        while (at >= 0) {
            for (int i = at; i < at + words.length(); i++) {
                rest.setCharAt(i, QUOTED);
            }
            at = document.indexOf(words, at + 1);
        }
        return found;
    }

    private static List<String> quotes() throws IOException {
        String literal = "\"((?:[^\"\\\\]|\\\\.)*)\"";
        Pattern call = Pattern.compile("\\bsentence\\(\\s*((?:" + literal + "[\\s+]*)+)\\)");
        List<String> result = new ArrayList<>();
        try (DirectoryStream<Path> files = Files.newDirectoryStream(TESTS, "*Test.java")) {
            for (Path file : files) {
                Matcher found = call.matcher(Files.readString(file));
                while (found.find()) {
                    result.add(joined(found.group(1), Pattern.compile(literal)));
                }
            }
        }
        return result;
    }

    private static String joined(String literals, Pattern literal) {
        StringBuilder words = new StringBuilder();
        Matcher part = literal.matcher(literals);
        while (part.find()) {
            words.append(part.group(1).replace("\\\"", "\""));
        }
        return words.toString();
    }
}
