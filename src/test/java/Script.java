import java.lang.reflect.InvocationTargetException;
import java.lang.reflect.Method;
import java.lang.reflect.Modifier;
import java.util.HashMap;
import java.util.List;
import java.util.Map;
import java.util.regex.Matcher;
import java.util.regex.Pattern;

/**
 * A run of calls on a new object, line by line: a call with what is due, or a setting up (README.md says
 * how they are written). Around each refused call it asks all that must not have changed.
 */
final class Script {
    private static final int MOST_CALLS = 512;
    private static final Map<String, Integer> REFUSALS = Map.of("BAD", -1, "FULL", -2, "STATE", -4, "SPENT", -6);
    private static final int FINDING = -3, NONE = -9;
    private static final List<String> FINDINGS = List.of("NOTHING", "BEYOND", "UNLIKE", "NOUGHT", "SIZE");
    private static final Pattern CALL = Pattern.compile("(?:(\\d+)\\*)?(\\w+)\\(([^)]*)\\)=(\\S+)");
    private static final Map<String, Method> METHODS = methods();

    private final Check c;
    private final String name;
    private EnvelopeCard x;
    private int calls;
    private long asked;
    private long upper;
    private long lower;
    private long held;

    Script(Check c, String name) {
        this.c = c;
        this.name = name;
        takeNew();
    }

    private static Map<String, Method> methods() {
        Map<String, Method> methods = new HashMap<>();
        for (Method m : EnvelopeCard.class.getDeclaredMethods()) {
            if (Modifier.isPublic(m.getModifiers())) {
                methods.put(m.getName(), m);
            }
        }
        return methods;
    }

    private void takeNew() {
        x = new EnvelopeCard();
        calls = 0;
        asked = 0;
        upper = 0;
        lower = 1;
    }

    void line(String line) {
        String[] words = line.split(" +");
        switch (words[0]) {
            case "new" -> takeNew();
            case "write" -> write(Integer.parseInt(words[1]), quoted(line));
            case "office" -> office(line.substring(words[0].length()).strip());
            case "fill" -> fill(words);
            case "hold" -> held = x.digest();
            case "held" -> c.due(name + ": digest() stays", x.digest(), held);
            case "digest" -> c.due(name + ": digest()", x.digest(), mixed(words));
            default -> callAll(line);
        }
        calls++;
        toldStays(line);
    }

    private static String quoted(String line) {
        return line.substring(line.indexOf('\'') + 1, line.lastIndexOf('\''));
    }

    private void write(int t, String signs) {
        Check.write(x, t, signs);
        calls += 1 + signs.length();
    }

    private void office(String signs) {
        write(3, signs);
        int desks = x.office(3);
        c.due(name + ": office " + signs, desks < 0 ? desks : 0, 0);
    }

    private void fill(String[] words) {
        int[] numbers = new int[words.length - 2];
        for (int k = 0; k < numbers.length; k++) {
            numbers[k] = number(words[k + 2]);
        }
        Check.fill(x, Integer.parseInt(words[1]), numbers);
        calls += 1 + numbers.length;
        asked = x.asked();
    }

    private static long mixed(String[] words) {
        long h = 17;
        for (int k = 1; k < words.length; k++) {
            h = 31 * h + Long.parseLong(words[k]);
        }
        return h;
    }

    private static int number(String word) {
        return switch (word) {
            case "MAX" -> Integer.MAX_VALUE;
            case "MIN" -> Integer.MIN_VALUE;
            case "NONE" -> NONE;
            default -> Integer.parseInt(word);
        };
    }

    private void callAll(String line) {
        Matcher m = CALL.matcher(line);
        int end = 0;
        while (m.find()) {
            c.due(name + ": blanks between the calls of " + line, line.substring(end, m.start()).isBlank() ? 1 : 0, 1);
            end = m.end();
            int times = m.group(1) == null ? 1 : Integer.parseInt(m.group(1));
            for (int k = 0; k < times; k++) {
                call(m.group(2), m.group(3), m.group(4));
            }
        }
        c.due(name + ": calls only in " + line, line.substring(end).isBlank() && end > 0 ? 1 : 0, 1);
    }

    private void call(String method, String numbers, String due) {
        String said = name + ": " + method + "(" + numbers + ")";
        int finding = FINDINGS.indexOf(due) + 1;
        if (finding > 0 || REFUSALS.containsKey(due)) {
            long[] before = all();
            long answer = answer(method, numbers);
            c.due(said, answer, finding > 0 ? FINDING : REFUSALS.get(due));
            changesOnlyFinding(said, before, finding);
            return;
        }
        long answer = answer(method, numbers);
        String[] fraction = due.split("[:/]");
        String[] parts = fraction[0].split(",");
        c.due(said, answer, number(parts[0]));
        if (parts.length > 1) {
            asked = number(parts[1]);
            c.due(said + ", asked()", x.asked(), asked);
            calls++;
        }
        if (fraction.length > 1) {
            upper = Long.parseLong(fraction[1]);
            lower = Long.parseLong(fraction[2]);
            c.due(said + ", upper()", x.upper(), upper);
            c.due(said + ", lower()", x.lower(), lower);
            calls += 2;
        }
    }

    private long answer(String method, String numbers) {
        Method m = METHODS.get(method);
        String[] words = numbers.isEmpty() ? new String[0] : numbers.split(",");
        Object[] arguments = new Object[words.length];
        for (int k = 0; k < words.length; k++) {
            arguments[k] = number(words[k]);
        }
        calls++;
        try {
            return ((Number) m.invoke(x, arguments)).longValue();
        } catch (IllegalAccessException | InvocationTargetException e) {
            throw new IllegalStateException(name + ": " + method + "(" + numbers + ")", e);
        }
    }

    /** What no refused call changes, the FINDINGS last. */
    private long[] all() {
        calls += 10;
        return new long[] {x.digest(), x.asked(), x.upper(), x.lower(), x.finding(),
            x.findings(1), x.findings(2), x.findings(3), x.findings(4), x.findings(5)};
    }

    private void changesOnlyFinding(String said, long[] before, int finding) {
        String[] what = {"digest()", "asked()", "upper()", "lower()", "finding()",
            "findings(1)", "findings(2)", "findings(3)", "findings(4)", "findings(5)"};
        if (finding > 0) {
            before[4] = finding;
            before[4 + finding]++;
        }
        long[] after = all();
        for (int k = 0; k < what.length; k++) {
            c.due(said + " refused, " + what[k], after[k], before[k]);
        }
    }

    /** What the calls of a line do not tell is still what was told last. */
    private void toldStays(String line) {
        c.due(name + ": asked() behind " + line, x.asked(), asked);
        c.due(name + ": upper() behind " + line, x.upper(), upper);
        c.due(name + ": lower() behind " + line, x.lower(), lower);
        calls += 3;
        c.due(name + ": at most 512 calls, " + calls, calls <= MOST_CALLS ? 1 : 0, 1);
    }
}
