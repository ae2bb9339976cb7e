import java.io.IOException;
import java.nio.file.Files;
import java.nio.file.Path;
import java.util.ArrayList;
import java.util.List;
import java.util.regex.Matcher;
import java.util.regex.Pattern;

/**
 * Which words of the document the tests stand for. A test quotes the sentence that it tests; at the end each quote
 * must be the document's own, and of what no test has quoted nothing may name a boundary case.
 */
final class Document {
    /** Section 0 is "Terms"; the others are the promises by their numbers. */
    private static final int SECTIONS = 39;
    private static final Pattern BOUNDARY = Pattern.compile(
        "NONE|NoSuchElementException|[Rr]efused|-1 - p|-2\\b|-4\\b|-[123]00\\b|\\bfalse\\b|\\bat most\\b|\\d \\.\\. \\d"
            + "|\\bempt|\\bwithout\\b|\\(0|\\bNo TERMS|\\b1 if|\\bmore than|\\bunlike ones|\\bno two|\\bnothing\\b"
            + "|\\bchange nothing|\\bone may be|\\bas ints|\\bof 8\\b|\\banother what");
    private static final List<List<String>> QUOTES = new ArrayList<>();
    private static String current = "";
    private static int askedAhead = 0;

    private Document() {
    }

    /** The answers asked from now on are due by these words of a section. */
    static void says(int section, String words) {
        somethingWasAsked();
        while (QUOTES.size() < SECTIONS) {
            QUOTES.add(new ArrayList<>());
        }
        QUOTES.get(section).add(words);
        current = (section == 0 ? "Terms" : "promise " + section) + ", \"" + words + "\": ";
    }

    /** A quote behind which nothing is asked stands for nothing. */
    private static void somethingWasAsked() {
        if (!current.isEmpty()) {
            Check.due("answers asked", Check.asked() > askedAhead, true);
        }
        askedAhead = Check.asked();
    }

    static String quoted(String what) {
        return current + what;
    }

    /** That the sections from .. to are quoted rightly, and that no boundary case of theirs is left out. */
    static void check(Path doc, int from, int to) throws IOException {
        somethingWasAsked();
        current = "";
        String text = Files.readString(doc).replaceAll("\\s+", " ");
        for (int section = from; section <= to; section++) {
            String left = sectionOf(text, section);
            List<String> quotes = new ArrayList<>(QUOTES.get(section));
            quotes.sort((a, b) -> b.length() - a.length());
            for (String words : quotes) {
                Check.due("section " + section + " says \"" + words + "\"",
                    !words.isEmpty() && sectionOf(text, section).contains(words), true);
                left = words.isEmpty() ? left : left.replace(words, " | ");
            }
            Matcher boundary = BOUNDARY.matcher(left);
            Check.due("section " + section + " has a boundary case that no test quotes: " + left,
                boundary.find(), false);
        }
    }

    private static String sectionOf(String text, int section) {
        String head = section == 0 ? "## Terms " : "## Promise " + section + ": ";
        int start = text.indexOf(head);
        if (start < 0) {
            return "";
        }
        int end = text.indexOf("## ", start + 3);
        String whole = text.substring(start + head.length(), end < 0 ? text.length() : end);
        return whole.replaceAll("```(text|java)?", " ").replaceAll("`[^`]*`", "`").replaceAll("\\s+", " ");
    }
}
