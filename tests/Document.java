import java.io.IOException;
import java.nio.file.Files;
import java.nio.file.Path;
import java.util.ArrayList;
import java.util.BitSet;
import java.util.List;
import java.util.Map;
import java.util.TreeMap;
import java.util.regex.Matcher;
import java.util.regex.Pattern;

/** The Terms and the promises of ../shared/DOC.md, and which of their words some test holds. */
final class Document {
    private static final int TERMS = 0;
    private static final Pattern PROMISE = Pattern.compile("## Promise (\\d+): .*");

    private static final class Section {
        final String text;
        final BitSet held = new BitSet();

        Section(String text) {
            this.text = text;
        }
    }

    private final Map<Integer, Section> sections = new TreeMap<>();

    Document(Path path) throws IOException {
        Map<Integer, StringBuilder> texts = new TreeMap<>();
        StringBuilder current = new StringBuilder();
        for (String line : Files.readAllLines(path)) {
            Matcher promise = PROMISE.matcher(line);
            if (line.equals("## Terms")) {
                current = texts.computeIfAbsent(TERMS, n -> new StringBuilder());
            } else if (promise.matches()) {
                current = texts.computeIfAbsent(Integer.parseInt(promise.group(1)), n -> new StringBuilder());
            } else if (line.startsWith("## ")) {
                current = new StringBuilder();
            } else if (!isFrame(line)) {
                current.append(' ').append(line.replaceFirst("^`[^`]*`: ", "").replaceFirst("^==== \\d ", ""));
            }
        }
        texts.forEach((n, text) -> sections.put(n, new Section(text.toString().replaceAll("\\s+", " ").trim())));
    }

    /** What promises nothing: the signs around a block, and what the face says anyway. */
    private static boolean isFrame(String line) {
        return line.startsWith("```") || line.startsWith("The constants:") || line.startsWith("Ahead of the calls");
    }

    int promises() {
        return sections.size() - 1;
    }

    /** Whether the promise, or else the Terms, have such words; these are held then. */
    boolean holds(int promise, String says) {
        return promise > TERMS && (marks(promise, says) || marks(TERMS, says));
    }

    private boolean marks(int number, String says) {
        Section section = sections.get(number);
        int from = section == null || says.isEmpty() ? -1 : section.text.indexOf(says);
        if (from < 0) {
            return false;
        }
        section.held.set(from, from + says.length());
        return true;
    }

    /** The words that no test holds. */
    List<String> rest() {
        List<String> rest = new ArrayList<>();
        sections.forEach((number, section) -> {
            int from = section.held.nextClearBit(0);
            while (from < section.text.length()) {
                int next = section.held.nextSetBit(from);
                int to = next < 0 ? section.text.length() : next;
                String words = section.text.substring(from, to);
                if (words.matches(".*[A-Za-z0-9].*")) {
                    rest.add((number == TERMS ? "Terms" : "promise " + number) + ": " + words.trim());
                }
                from = section.held.nextClearBit(to);
            }
        });
        return rest;
    }
}
