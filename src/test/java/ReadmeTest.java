import java.io.IOException;
import java.nio.file.Files;
import java.nio.file.Path;
import java.util.regex.Matcher;
import java.util.regex.Pattern;

/** The example of README.md answers what README.md says. */
public final class ReadmeTest {
    private static final Path README = Path.of("README.md");
    private static final Pattern SIGNS = Pattern.compile("String signs = \"([^\"]*)\";");
    private static final Pattern ANSWERED = Pattern.compile(
        "x\\.(\\w+\\([^;]*\\)); +// (-?\\d+)(?:, asked\\(\\) (-?\\d+))?(?:, upper\\(\\) (\\d+), lower\\(\\) (\\d+))?");

    private final Check c = new Check("ReadmeTest");
    private final Script script = new Script(c, "README.md");
    private String signs = "";

    public static void main(String[] args) throws IOException {
        new ReadmeTest().run();
    }

    private void run() throws IOException {
        String readme = Files.readString(README);
        int from = readme.indexOf("```java\n");
        int to = readme.indexOf("```", from + 3);
        c.due("README.md has an example", from >= 0 && to > from ? 1 : 0, 1);
        for (String line : readme.substring(from, to).split("\n")) {
            read(line.strip());
        }
        c.end();
    }

    private void read(String line) {
        Matcher text = SIGNS.matcher(line);
        Matcher answered = ANSWERED.matcher(line);
        if (text.matches()) {
            signs = text.group(1);
        } else if (answered.matches()) {
            script.line(asScript(answered));
        } else if (line.startsWith("x.put(")) {
            script.line("write 0 '" + signs + "'");
        } else if (line.startsWith("x.")) {
            c.due("README.md tells what is answered: " + line, 0, 1);
        }
    }

    private String asScript(Matcher m) {
        String call = m.group(1).replace("signs.length()", "" + signs.length()).replace(" ", "");
        String asked = m.group(3) == null ? "" : "," + m.group(3);
        String fraction = m.group(4) == null ? "" : ":" + m.group(4) + "/" + m.group(5);
        return call + "=" + m.group(2) + asked + fraction;
    }
}
