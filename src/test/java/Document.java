import java.io.IOException;
import java.io.UncheckedIOException;
import java.nio.file.Files;
import java.nio.file.Path;
import java.util.ArrayList;
import java.util.LinkedHashMap;
import java.util.List;
import java.util.Map;

/** The document by its sections, and which of its words the tests have quoted so far. */
final class Document {
    private static final Path PLACE = Path.of("../shared/DOC.md");
    private static final String FRAME = "A FRAME";
    private static final List<String> IN_DESCRIPTION = List.of("ERRORS", "THE PANEL", FRAME, "THE TEXT OF FINGERS");
    private static final String FACE = "The public face";
    /** What asks for nothing that a call could show. */
    private static final String[][] FREE = {
        {"What it is", "what later calls answer is free."},
        {"THE TEXT OF FINGERS", "The constructor and the methods follow, a promise each: the signature, then what it"
            + " does."},
        {"Not promised", "How the state is held inside the object is free, as are the speed of each call, the text of"
            + " toString and the behaviour of equals and hashCode. Use of one object from several threads at once is"
            + " not promised to be safe. Nothing is promised beyond the answers and state changes described above, and"
            + " nothing about an object after its 512th call."}};
    private static final Map<String, StringBuilder> SECTIONS = read();
    private static final Map<String, boolean[]> QUOTED = new LinkedHashMap<>();

    private Document() {
    }

    private static Map<String, StringBuilder> read() {
        Map<String, StringBuilder> sections = new LinkedHashMap<>();
        String section = "";
        for (String line : lines()) {
            if (line.startsWith("#")) {
                section = line.replaceFirst("^#+ ", "").replaceFirst(":.*", "");
            } else if (IN_DESCRIPTION.contains(line)) {
                section = line;
            } else {
                if (section.startsWith(FRAME) && line.matches("[1-8]\\. .*")) section = FRAME + " " + line.charAt(0);
                sections.computeIfAbsent(section, name -> new StringBuilder()).append(words(section, line));
            }
        }
        return sections;
    }

    private static List<String> lines() {
        try {
            return Files.readAllLines(PLACE);
        } catch (IOException fault) {
            throw new UncheckedIOException(fault);
        }
    }

    /** A line without signatures, names of arguments, names of groups and the headings of steps. */
    private static String words(String section, String line) {
        if (section.equals(FACE)) return line + "\n";
        if (line.startsWith("----")) return "";
        String bare = line.replaceFirst("^`.*`$", "").replaceFirst("^- `\\w+`: ", "");
        if (section.startsWith(FRAME)) {
            bare = bare.replaceFirst("^[1-8]\\. ((Sensing|Noise|Hills|Spots|Assignment|New tracks|Baseline)\\. )?", "");
        }
        return bare.isBlank() ? "" : bare.strip() + " ";
    }

    /** The lines of the code that the document gives as the public face. */
    static String[] face() {
        return text(FACE).split("\n");
    }

    private static String text(String section) {
        return SECTIONS.getOrDefault(section, new StringBuilder()).toString();
    }

    /** Marks the words as quoted; false if they do not stand in that section. */
    static boolean quote(String section, String words) {
        String text = text(section);
        boolean[] quoted = QUOTED.computeIfAbsent(section, name -> new boolean[text.length()]);
        boolean found = false;
        for (int at = text.indexOf(words); at >= 0; at = text.indexOf(words, at + 1)) {
            java.util.Arrays.fill(quoted, at, at + words.length(), true);
            found = true;
        }
        return found;
    }

    /** The words that no test has quoted, each with its section. */
    static List<String> unquoted() {
        for (String[] free : FREE) Checks.holds(free[0] + " says \"" + free[1] + "\"", quote(free[0], free[1]));
        List<String> left = new ArrayList<>();
        for (String section : SECTIONS.keySet()) {
            if (!section.equals(FACE)) addUnquoted(section, left);
        }
        return left;
    }

    private static void addUnquoted(String section, List<String> left) {
        String text = text(section);
        boolean[] quoted = QUOTED.getOrDefault(section, new boolean[text.length()]);
        StringBuilder piece = new StringBuilder();
        for (int at = 0; at <= text.length(); at++) {
            if (at < text.length() && !quoted[at]) {
                piece.append(text.charAt(at));
            } else {
                if (piece.toString().matches("(?s).*[A-Za-z0-9].*")) left.add(section + ": " + piece);
                piece.setLength(0);
            }
        }
    }

    /** How many sections there are; the document has 23 promises, 8 steps and what is around them. */
    static int sections() {
        return SECTIONS.size();
    }
}
