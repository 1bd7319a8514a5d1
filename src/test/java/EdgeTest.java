import java.io.IOException;
import java.nio.file.Files;
import java.nio.file.Path;
import java.util.List;
import java.util.stream.Collectors;
import java.util.stream.Stream;

/**
 * The edges: for each sentence of the document a run of calls of its own, with the answers that are due.
 * They stand as texts under src/test/edges; the README there tells how they are written.
 */
public final class EdgeTest {
    private static Document document;
    private static String sentence;
    private static int due;
    private static Run run;

    private static void begin(String header) {
        sentence = header;
        due = 0;
        run = new Run();
        int colon = header.indexOf(": ");
        boolean stands = colon > 0 && document.quote(header.substring(0, colon), header.substring(colon + 2));
        Due.isTrue("the document says: " + header, stands);
    }

    private static void end() {
        if (sentence != null) Due.isTrue(sentence + ": answers are due", due > 0);
    }

    private static void perform(String told) {
        String[] words = told.split(" +", 2);
        String rest = words.length == 2 ? words[1] : "";
        switch (words[0]) {
            case "new": run = new Run(); break;
            case "roads": for (String road : rest.split(" ")) road(road); break;
            case "walkers": for (String walker : rest.split(" ")) walker(walker); break;
            case "pad": pad(rest); break;
            case "days": days(Integer.parseInt(rest)); break;
            default: call(told); break;
        }
    }

    private static void road(String told) {
        call("road(" + (told.charAt(0) - 'a') + ", " + (told.charAt(1) - 'a') + ", " + told.charAt(2) + ")");
    }

    private static void walker(String told) {
        call("walker(" + (told.charAt(0) - 'A') + ", " + (told.charAt(1) - 'a') + ", " + told.endsWith("^") + ")");
    }

    /** Words of signs; "59*." is a sign so many times. */
    private static void pad(String text) {
        call("wipe()");
        for (String word : text.split(" ")) {
            boolean again = word.matches("\\d+\\*.");
            String signs = again ? word.substring(word.length() - 1).repeat(Integer.parseInt(word.substring(0, word.length() - 2))) : word;
            for (char sign : signs.toCharArray()) call("say(" + (int) sign + ")");
        }
    }

    private static void days(int many) {
        for (int left = many; left > 0; left -= 60) {
            pad(Math.min(60, left) + "*.");
            call("done()");
        }
    }

    /** "call", "call = answer", "n times call", "n times call = answer". */
    private static void call(String told) {
        String[] sides = told.split(" = ", 2);
        String[] times = sides[0].split(" times ", 2);
        int many = times.length == 2 ? Integer.parseInt(times[0]) : 1;
        Call call = new Call(times[times.length - 1]);
        for (int i = 0; i < many; i++) answer(call, sides.length == 2 ? sides[1] : null);
    }

    private static void answer(Call call, String want) {
        String label = sentence + " [" + call + "]";
        long got = run.answer(call, label);
        if (want == null) {
            Due.isTrue(label + " is not refused", got >= 0);
        } else {
            due++;
            Due.is(label, got, Call.number(want));
        }
    }

    private static void line(String line) {
        if (line.isEmpty() || line.startsWith("--")) return;
        if (line.startsWith("== ")) {
            end();
            begin(line.substring(3));
        } else {
            for (String told : line.split("; ")) perform(told.trim());
        }
    }

    private static void allIsQuoted(String section) {
        // the head has the story and the face, which FaceTest looks at
        if (section.equals("Head")) return;
        String rest = document.unquoted(section);
        Due.is(section + ", words that no edge quotes: " + rest, rest.length(), 0);
    }

    private static List<Path> texts(String folder) throws IOException {
        try (Stream<Path> all = Files.list(Path.of(folder))) {
            return all.filter(p -> p.toString().endsWith(".txt")).sorted().collect(Collectors.toList());
        }
    }

    public static void main(String[] args) throws IOException {
        document = new Document(Files.readString(Path.of(args[1])));
        for (Path text : texts(args[2])) {
            for (String line : Files.readAllLines(text)) line(line.trim());
        }
        end();
        for (String section : document.sections()) allIsQuoted(section);
        Due.end();
    }
}
