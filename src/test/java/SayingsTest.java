import java.io.IOException;
import java.nio.file.Files;
import java.nio.file.Path;
import java.util.ArrayList;
import java.util.BitSet;
import java.util.List;
import java.util.Map;
import java.util.TreeMap;
import java.util.regex.Matcher;
import java.util.regex.Pattern;

/**
 * Whether the words that the tests say they stand for are the document's, and whether each word of its terms and
 * promises is among those that some test stands for. The property "doc" is the document's path, "tests" that of
 * the tests.
 */
public final class SayingsTest {
    private static final Pattern WORD = Pattern.compile("[A-Za-z0-9]+");
    /** How the document's parts are set off, which says nothing. */
    private static final Pattern FRAME = Pattern.compile("==== \\d\\.|```(text)?");
    private static final Pattern SAYS =
        Pattern.compile("due\\.says\\((\\d+),\\s*((?:\"(?:[^\"\\\\]|\\\\.)*\"[\\s+]*)+)\\)");
    private static final Pattern TEXT = Pattern.compile("\"((?:[^\"\\\\]|\\\\.)*)\"");
    private static final int PROMISES = 50;

    private static final Due due = new Due();

    public static void main(String[] args) throws IOException {
        Path doc = Path.of(System.getProperty("doc"));
        if (!Files.isReadable(doc)) {
            System.out.println("SayingsTest: no document at " + doc + ", nothing is held");
            return;
        }
        Map<Integer, String> sections = sections(Files.readString(doc));
        Map<Integer, BitSet> covered = new TreeMap<>();
        for (int n = 0; n <= PROMISES; n++) {
            due.is("the document has section " + n, sections.containsKey(n), true);
            covered.put(n, new BitSet());
        }
        for (String[] saying : sayings(Path.of(System.getProperty("tests")))) {
            int n = Integer.parseInt(saying[0]);
            String section = sections.getOrDefault(n, "");
            int at = section.indexOf(saying[1]);
            due.is("section " + n + " says '" + saying[1] + "'", at >= 0, true);
            for (; at >= 0; at = section.indexOf(saying[1], at + 1)) {
                covered.get(n).set(at, at + saying[1].length());
            }
        }
        for (int n = 0; n <= PROMISES; n++) {
            due.is("a test for section " + n, !covered.get(n).isEmpty(), true);
            words(n, sections.getOrDefault(n, ""), covered.get(n));
        }
        due.end("SayingsTest");
    }

    /** 0 how long an object is used, and 'Terms'; n 'Promise n', each without the line of the call itself. */
    private static Map<Integer, String> sections(String doc) {
        Map<Integer, String> sections = new TreeMap<>();
        String used = "";
        for (String part : doc.split("\n## ")) {
            int line = part.indexOf('\n');
            if (part.startsWith("What it is")) {
                // Ahead of it stands what the document is about, which the rest tells.
                used = part.substring(part.indexOf("An object is used"));
            }
            if (part.startsWith("Terms")) {
                sections.put(0, used + FRAME.matcher(part.substring(line + 1)).replaceAll(""));
            }
            Matcher head = Pattern.compile("Promise (\\d+):.*").matcher(line < 0 ? part : part.substring(0, line));
            if (head.matches()) {
                String body = part.substring(line + 1);
                // The call's own line, in back quotes, tells the face, which LanguageTest holds.
                sections.put(Integer.parseInt(head.group(1)), body.substring(body.lastIndexOf("`:") + 2));
            }
        }
        return sections;
    }

    private static List<String[]> sayings(Path tests) throws IOException {
        List<String[]> found = new ArrayList<>();
        List<Path> files = new ArrayList<>();
        try (var all = Files.list(tests)) {
            all.filter(p -> p.toString().endsWith("Test.java")).sorted().forEach(files::add);
        }
        for (Path file : files) {
            Matcher says = SAYS.matcher(Files.readString(file));
            while (says.find()) {
                StringBuilder words = new StringBuilder();
                Matcher text = TEXT.matcher(says.group(2));
                while (text.find()) {
                    words.append(text.group(1));
                }
                found.add(new String[] {says.group(1), words.toString()});
            }
        }
        return found;
    }

    private static void words(int n, String section, BitSet covered) {
        Matcher at = WORD.matcher(section);
        while (at.find()) {
            String near = section.substring(Math.max(0, at.start() - 40), Math.min(section.length(), at.end() + 30));
            due.is("section " + n + ", a test for '.." + near.replace('\n', ' ') + "..'", covered.get(at.start()), true);
        }
    }
}
