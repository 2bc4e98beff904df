import java.io.IOException;
import java.nio.file.Files;
import java.nio.file.Path;
import java.util.List;
import java.util.Map;
import java.util.TreeMap;
import java.util.regex.Matcher;
import java.util.regex.Pattern;
import java.util.stream.Stream;

/**
 * Each sentence of the document by a run of its own. The runs stand in src/test/sentences; README.md says
 * how they are written. All words of the chapter Terms and of each promise must be quoted there.
 */
public final class SentenceTest {
    private static final Path DOCUMENT = Path.of("../shared/DOC.md");
    private static final Path SENTENCES = Path.of("src/test/sentences");
    private static final String TERMS = "Terms", AHEAD = "Ahead";
    private static final int PROMISES = 52;

    private final Check c = new Check("SentenceTest");
    /** What is left to be quoted of each part: what was is blotted out. */
    private final Map<String, StringBuilder> left = new TreeMap<>();
    private String part = "";
    private String quote = "";
    private Script script = null;
    private int linesOfRun = 0;

    public static void main(String[] args) throws IOException {
        SentenceTest test = new SentenceTest();
        test.readDocument();
        test.runAll();
        test.allIsQuoted();
        test.c.end();
    }

    private void readDocument() throws IOException {
        String document = Files.readString(DOCUMENT);
        String terms = between(document, "\n## Terms\n", "\n## Promise 1:");
        int ahead = terms.indexOf("Ahead of the calls");
        addPart(TERMS, terms.substring(0, ahead).replaceAll("```\\w*", ""));
        addPart(AHEAD, terms.substring(ahead));
        Matcher m = Pattern.compile("\n## Promise (\\d+): [^\n]+\n+`[^`]*`: ([^\n]*)\n").matcher(document);
        while (m.find()) {
            addPart(m.group(1), m.group(2));
        }
        c.due("parts of the document", left.size(), 2 + PROMISES);
    }

    private static String between(String text, String from, String to) {
        int start = text.indexOf(from) + from.length();
        return text.substring(start, text.indexOf(to, start));
    }

    private void addPart(String name, String text) {
        left.put(name, new StringBuilder(text.replaceAll("\\s+", " ")));
    }

    private void runAll() throws IOException {
        List<Path> files;
        try (Stream<Path> all = Files.list(SENTENCES)) {
            files = all.sorted().toList();
        }
        for (Path file : files) {
            for (String line : Files.readAllLines(file)) {
                read(line.strip());
            }
            endRun();
        }
    }

    private void read(String line) {
        if (line.isEmpty() || line.startsWith("#")) {
            return;
        }
        if (line.startsWith("== ")) {
            endRun();
            part = line.substring(3);
        } else if (line.startsWith("\" ")) {
            endRun();
            quote = line.substring(2);
            blotOut();
            script = new Script(c, part + ": " + quote);
            linesOfRun = 0;
        } else if (script == null) {
            c.due("a sentence ahead of " + line, 0, 1);
        } else {
            script.line(line);
            linesOfRun++;
        }
    }

    private void endRun() {
        if (script != null) {
            c.due(part + ": " + quote + " has a run", linesOfRun > 0 ? 1 : 0, 1);
            script = null;
        }
    }

    private void blotOut() {
        StringBuilder text = left.get(part);
        int at = text == null ? -1 : text.indexOf(quote);
        c.due(part + ": stands in the document, not yet quoted: " + quote, at >= 0 ? 1 : 0, 1);
        for (int k = 0; at >= 0 && k < quote.length(); k++) {
            text.setCharAt(at + k, ' ');
        }
    }

    private void allIsQuoted() {
        for (Map.Entry<String, StringBuilder> entry : left.entrySet()) {
            String rest = entry.getValue().toString().replaceAll("[\\s=]+", " ").strip();
            if (!entry.getKey().equals(AHEAD)) {
                c.due(entry.getKey() + ": left to be quoted: " + rest, rest.isEmpty() ? 1 : 0, 1);
            }
        }
    }
}
