import java.io.IOException;
import java.nio.file.Files;
import java.nio.file.Path;
import java.util.Arrays;
import java.util.Map;
import java.util.Set;
import java.util.TreeMap;

/**
 * All boundary cases that the document names, sentence by sentence. When they are through, the words for which they
 * stand are compared with the document: each must be found there, and none of its terms and promises may be left out.
 */
public final class EdgesTest {
    private static final Path DOCUMENT = Path.of("../shared/DOC.md");
    private static final Edges EDGES = new Edges();

    /** The text of each section by its heading; "Promise 2: step" is "Promise 2" here. */
    private static Map<String, String> sections() throws IOException {
        Map<String, String> all = new TreeMap<>();
        String section = "";
        for (String line : Files.readAllLines(DOCUMENT)) {
            if (line.startsWith("#")) {
                section = line.replaceAll("^#+ ", "").replaceAll("^(Promise \\d+):.*", "$1");
            } else {
                all.merge(section, line + "\n", String::concat);
            }
        }
        return all;
    }

    /** Whether a line only names what is told elsewhere: a method (FaceTest), where it stands, or a heading. */
    private static boolean isNoSentence(String clause) {
        return clause.isBlank() || clause.startsWith("Ahead of the calls `") || clause.equals("Protocols, channels");
    }

    /** The words without a method's head, a bullet, and what leads to a list. */
    private static String bare(String clause) {
        return clause.replaceAll("^`[^`]*\\([^`]*`:? ?", "").replaceAll("^- ", "").replaceAll("^The (ops, of a and b|constants):", "");
    }

    /** Only of a whole section a sentence may not be left out. */
    private static void compare(String section, String text, Set<String> said, boolean whole) {
        boolean[] covered = new boolean[text.length()];
        for (String words : said) {
            EDGES.due("\"" + words + "\" stands in " + section, true, text.contains(words));
            for (int at = text.indexOf(words); at >= 0; at = text.indexOf(words, at + 1)) {
                Arrays.fill(covered, at, at + words.length(), true);
            }
        }
        int from = 0;
        for (String clause : whole ? text.split("(?<=[.;]) |\n") : new String[0]) {
            int at = text.indexOf(clause, from);
            from = at + clause.length();
            int left = 0;
            for (int i = at; i < from; i++) {
                left += covered[i] || text.charAt(i) == ' ' ? 0 : 1;
            }
            int heads = clause.length() - bare(clause).length();
            EDGES.due("a test stands for \"" + clause + "\" in " + section, true, isNoSentence(clause) || left <= heads);
        }
    }

    private static void compareAll() throws IOException {
        if (!Files.exists(DOCUMENT)) {
            System.out.println("no " + DOCUMENT + " to compare the sentences with");
            return;
        }
        Map<String, String> sections = sections();
        for (String section : Edges.SAID.keySet()) {
            EDGES.due("there is a section " + section, true, sections.containsKey(section));
        }
        for (String section : sections.keySet()) {
            Set<String> said = Edges.SAID.getOrDefault(section, Set.of());
            boolean whole = section.startsWith("Promise ") || !said.isEmpty() && !section.equals("What it is");
            compare(section, sections.get(section), said, whole);
        }
    }

    public static void main(String[] args) throws IOException {
        TellingEdges.all();
        FoundEdges.all();
        StuckEdges.all();
        RunEdges.all();
        compareAll();
        Edges.end();
    }
}
