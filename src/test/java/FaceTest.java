import java.io.IOException;
import java.lang.reflect.Constructor;
import java.lang.reflect.Field;
import java.lang.reflect.Method;
import java.lang.reflect.Modifier;
import java.nio.charset.StandardCharsets;
import java.nio.file.Files;
import java.nio.file.Path;
import java.util.List;
import java.util.Set;
import java.util.TreeSet;
import java.util.regex.Matcher;
import java.util.regex.Pattern;

/** The public face as the document has it, and what can be seen of the rules of LANGUAGE.md. */
public final class FaceTest {
    private static final Path DOCUMENT = Path.of("../shared/DOC.md");
    private static final Path PROGRAM = Path.of("src/main/java/EnvelopeCard.java");
    private static final List<String> RULED_OUT = List.of("import", "throw", "throws", "try", "catch", "finally",
        "synchronized", "assert", "->", "::", "System.out", "static {", "Random", "float",
        "double", "hashCode", "equals");

    public static void main(String[] args) throws IOException {
        Check c = new Check("FaceTest");
        face(c);
        constants(c);
        classesInside(c);
        words(c);
        c.end();
    }

    private static void face(Check c) throws IOException {
        String document = Files.readString(DOCUMENT);
        Set<String> due = new TreeSet<>();
        Matcher line = Pattern.compile("^    public (int|long) (\\w+)\\((.*)\\);$", Pattern.MULTILINE).matcher(document);
        while (line.find()) {
            int numbers = line.group(3).isEmpty() ? 0 : line.group(3).split(",").length;
            due.add(line.group(1) + " " + line.group(2) + " " + numbers);
        }
        Set<String> is = new TreeSet<>();
        Set<String> others = new TreeSet<>();
        for (Method m : EnvelopeCard.class.getDeclaredMethods()) {
            if (Modifier.isPublic(m.getModifiers())) {
                is.add(m.getReturnType() + " " + m.getName() + " " + m.getParameterCount());
            } else {
                others.add(m.getName());
                c.due(m.getName() + " is private", Modifier.isPrivate(m.getModifiers()) ? 1 : 0, 1);
            }
        }
        c.due("methods of the document", due.size(), 51);
        c.due("methods: " + is, is.equals(due) ? 1 : 0, 1);
        for (String name : others) {
            c.due(name + " is no name of the face", is.stream().anyMatch(m -> m.split(" ")[1].equals(name)) ? 1 : 0, 0);
        }
        c.due("final", Modifier.isFinal(EnvelopeCard.class.getModifiers()) ? 1 : 0, 1);
        Constructor<?>[] constructors = EnvelopeCard.class.getDeclaredConstructors();
        c.due("constructors", constructors.length, 1);
        c.due("public constructor", Modifier.isPublic(constructors[0].getModifiers()) ? 1 : 0, 1);
    }

    private static void constants(Check c) {
        c.due("BAD", EnvelopeCard.BAD, -1);
        c.due("FULL", EnvelopeCard.FULL, -2);
        c.due("FINDING", EnvelopeCard.FINDING, -3);
        c.due("STATE", EnvelopeCard.STATE, -4);
        c.due("SPENT", EnvelopeCard.SPENT, -6);
        c.due("NONE", EnvelopeCard.NONE, -9);
        int fields = 0;
        for (Field f : EnvelopeCard.class.getDeclaredFields()) {
            int m = f.getModifiers();
            if (Modifier.isPublic(m)) {
                fields++;
            } else {
                c.due(f.getName() + " is private", Modifier.isPrivate(m) ? 1 : 0, 1);
            }
            c.due(f.getName() + ": static is final", Modifier.isStatic(m) && !Modifier.isFinal(m) ? 1 : 0, 0);
        }
        c.due("constants", fields, 6);
    }

    private static void classesInside(Check c) {
        Class<?>[] inside = EnvelopeCard.class.getDeclaredClasses();
        c.due("classes", inside.length <= 12 ? 1 : 0, 1);
        for (Class<?> one : inside) {
            c.due(one.getName() + " is static", Modifier.isStatic(one.getModifiers()) ? 1 : 0, 1);
            c.due(one.getName() + " is not public", Modifier.isPublic(one.getModifiers()) ? 1 : 0, 0);
            int fields = 0;
            for (Field f : one.getDeclaredFields()) {
                fields += Modifier.isStatic(f.getModifiers()) ? 0 : 1;
            }
            c.due(one.getName() + " has few fields", fields <= 20 ? 1 : 0, 1);
        }
    }

    private static void words(Check c) throws IOException {
        String program = Files.readString(PROGRAM, StandardCharsets.US_ASCII);
        String code = program.replaceAll("(?s)/\\*.*?\\*/", "").replaceAll("//[^\n]*", "");
        for (String word : RULED_OUT) {
            boolean isName = word.chars().allMatch(Character::isLetter);
            String edge = isName ? "\\b" : "";
            boolean found = Pattern.compile(edge + Pattern.quote(word) + edge).matcher(code).find();
            c.due("'" + word + "' in the program", found ? 1 : 0, 0);
        }
        int longest = 0;
        int from = 0;
        String[] lines = program.split("\n");
        for (int k = 0; k < lines.length; k++) {
            if (lines[k].matches(" {4,8}\\w.*\\) \\{")) {
                from = k;
            }
            if (lines[k].matches(" {4,8}\\}")) {
                longest = Math.max(longest, k - from + 1);
                from = k;
            }
        }
        c.due("methods are short: " + longest, longest <= 60 ? 1 : 0, 1);
    }
}
