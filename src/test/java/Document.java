import java.io.IOException;
import java.io.UncheckedIOException;
import java.nio.file.Files;
import java.nio.file.Path;
import java.util.ArrayList;
import java.util.LinkedHashMap;
import java.util.List;
import java.util.Map;
import java.util.TreeSet;

/**
 * The clauses of the document (what stands between its full stops, semicolons and line ends), section by
 * section, and which of them a test has quoted: so that none is left without a test unseen.
 */
final class Document {
    private static final Path PLACE = Path.of("../shared/DOC.md");

    private final Map<String, List<String>> clauses = new LinkedHashMap<>();
    private final TreeSet<String> quoted = new TreeSet<>();

    Document() {
        String section = "";
        boolean code = false;
        for (String line : lines()) {
            if (line.startsWith("```")) {
                code = !code;
            } else if (line.startsWith("#")) {
                section = line.replaceAll("^#+ ", "");
                clauses.put(section, new ArrayList<>());
            } else if (!code && !section.isEmpty() && !line.startsWith("Ahead of the calls")) {
                // Those lines tell the headings in the interface, which no call shows.
                note(section, line);
            }
        }
    }

    private static List<String> lines() {
        try {
            return Files.readAllLines(PLACE);
        } catch (IOException e) {
            throw new UncheckedIOException(e);
        }
    }

    private void note(String section, String line) {
        for (String clause : line.replaceAll("^- ", "").split("(?<=[.;]) ")) {
            if (!clause.isBlank()) {
                clauses.get(section).add(clause);
            }
        }
    }

    /** Answers whether the section has these words, and notes the clauses that they are of. */
    boolean quote(String section, String words) {
        boolean found = false;
        for (String clause : clauses.getOrDefault(section, List.of())) {
            if (clause.contains(words) || words.contains(clause)) {
                quoted.add(section + ": " + clause);
                found = true;
            }
        }
        return found;
    }

    /** The heading of a section, from the words that it begins with. */
    String heading(String beginning) {
        for (String section : clauses.keySet()) {
            if (section.startsWith(beginning)) {
                return section;
            }
        }
        return beginning;
    }

    /** The clauses that no test has quoted, of the sections from one to another. */
    List<String> unquoted(String from, String to) {
        List<String> left = new ArrayList<>();
        boolean within = false;
        for (String section : clauses.keySet()) {
            within |= section.equals(from);
            for (String clause : clauses.get(section)) {
                if (within && !quoted.contains(section + ": " + clause)) {
                    left.add(section + ": " + clause);
                }
            }
            within &= !section.equals(to);
        }
        return left;
    }
}
