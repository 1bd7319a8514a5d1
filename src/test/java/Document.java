import java.util.BitSet;
import java.util.LinkedHashMap;
import java.util.Map;
import java.util.regex.Matcher;
import java.util.regex.Pattern;

/** The document's words by sections ("Head", "Terms", "1" to "26"), and which of them a test has quoted. */
final class Document {
    private static final Pattern HEADING = Pattern.compile("(?m)^## (Terms|Promise (\\d+): \\w.*|Not promised)$");

    private final Map<String, String> sections = new LinkedHashMap<>();
    private final Map<String, BitSet> quoted = new LinkedHashMap<>();

    Document(String text) {
        String name = "Head";
        int from = 0;
        Matcher heading = HEADING.matcher(text);
        while (heading.find()) {
            put(name, text.substring(from, heading.start()));
            name = heading.group(2) != null ? heading.group(2) : heading.group(1);
            from = heading.end();
        }
    }

    /** Without what only sets the words: fences, marks of parts, the signs of a call, where the interface is parted. */
    private void put(String name, String text) {
        String words = text.replaceAll("(?m)^```.*$", " ").replaceAll("=+ \\d ", " ").replaceAll("(?m)^Ahead of the calls .*$", " ")
            .replaceAll("(?m)^`[^`]*`:", " ").replaceAll("\\s+", " ").trim();
        sections.put(name, words);
        quoted.put(name, new BitSet());
    }

    /** Whether the words stand in that section; if so, they are quoted from now on. */
    boolean quote(String section, String words) {
        int at = sections.getOrDefault(section, "").indexOf(words);
        if (at < 0 || words.isEmpty()) return false;
        quoted.get(section).set(at, at + words.length());
        return true;
    }

    Iterable<String> sections() {
        return sections.keySet();
    }

    /** The words of a section that no test has quoted. */
    String unquoted(String section) {
        StringBuilder rest = new StringBuilder(sections.get(section));
        quoted.get(section).stream().forEach(at -> rest.setCharAt(at, ' '));
        return rest.toString().replaceAll("\\s+", " ").trim();
    }
}
