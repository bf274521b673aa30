import java.io.IOException;
import java.lang.reflect.InvocationTargetException;
import java.lang.reflect.Method;
import java.lang.reflect.Modifier;
import java.nio.file.Files;
import java.nio.file.Path;
import java.util.regex.Matcher;
import java.util.regex.Pattern;

/** README.md: its example answers as it says, its lines of a land can be read, and it names every call. */
public final class ReadmeTest {
    private static final Pattern CALL = Pattern.compile("x\\.(\\w+)\\(([^)]*)\\);\\s*(?:// (.*))?");
    private static final Pattern ANSWER = Pattern.compile("(-?\\d+|true|false|throws \\w+)(?::.*)?");
    private static final Pattern FED = Pattern.compile("\\d+: (.*)");
    private static final Pattern TOLD_LINE = Pattern.compile("`([^`]*)`");

    public static void main(String[] args) throws IOException {
        String text = Files.readString(Path.of("README.md"));
        example(between(text, "```java\n", "```"));
        lines(between(text, "| line | what it tells |\n|---|---|\n", "\n\n"));
        calls(text);
        Check.end();
    }

    private static String between(String text, String begins, String ends) {
        int from = text.indexOf(begins);
        int to = from < 0 ? -1 : text.indexOf(ends, from + begins.length());
        Check.due("README.md has what begins with " + begins.trim(), to < 0 ? 0 : 1, 1);
        return to < 0 ? "" : text.substring(from + begins.length(), to);
    }

    private static void example(String block) {
        DegreeLaws x = null;
        int answers = 0;
        for (String line : block.split("\n")) {
            if (line.equals("DegreeLaws x = new DegreeLaws();")) {
                x = new DegreeLaws();
                continue;
            }
            Matcher m = CALL.matcher(line);
            Check.due("it can be run: " + line, x != null && m.matches() ? 1 : 0, 1);
            if (x != null && m.matches()) {
                String got = answerOf(x, m.group(1), m.group(2));
                Check.due(line + " (it answers " + got + ")", got.equals(told(m.group(3))) ? 1 : 0, 1);
                bytesTold(line, m);
                answers += got.isEmpty() ? 0 : 1;
            }
        }
        Check.due("the example has answers", answers > 20 ? 1 : 0, 1);
    }

    /** What a line's words say that it answers; empty: nothing. */
    private static String told(String words) {
        Matcher m = ANSWER.matcher(words == null ? "" : words);
        return m.matches() ? m.group(1) : "";
    }

    private static String answerOf(DegreeLaws x, String name, String numbers) {
        String[] told = numbers.isEmpty() ? new String[0] : numbers.split(", ");
        Method m = methodOf(name);
        if (m == null || m.getParameterCount() != told.length) {
            return "no such call";
        }
        Object[] given = new Object[told.length];
        for (int i = 0; i < told.length; i++) {
            long v = Long.decode(told[i]);
            given[i] = m.getParameterTypes()[i] == long.class ? (Object) v : (Object) (int) v;
        }
        try {
            Object got = m.invoke(x, given);
            return got == null ? "" : got.toString();
        } catch (InvocationTargetException e) {
            return "throws " + e.getCause().getClass().getSimpleName();
        } catch (IllegalAccessException e) {
            return "can't be called";
        }
    }

    private static Method methodOf(String name) {
        for (Method m : DegreeLaws.class.getDeclaredMethods()) {
            if (Modifier.isPublic(m.getModifiers()) && m.getName().equals(name)) {
                return m;
            }
        }
        return null;
    }

    /** The text that a line of feed tells is that of its bytes. */
    private static void bytesTold(String line, Matcher call) {
        Matcher fed = FED.matcher(call.group(3) == null ? "" : call.group(3));
        if (!call.group(1).equals("feed") || !fed.matches()) {
            return;
        }
        StringBuilder bytes = new StringBuilder();
        for (String four : call.group(2).split(", ")) {
            int v = (int) (long) Long.decode(four);
            for (int shift = 24; shift >= 0; shift -= 8) {
                bytes.append((char) (v >> shift & 255));
            }
        }
        Check.due(line + " (its bytes are " + bytes + ")", bytes.toString().stripTrailing().equals(fed.group(1)) ? 1 : 0, 1);
    }

    private static void lines(String table) {
        int many = 0;
        for (String row : table.split("\n")) {
            Matcher m = TOLD_LINE.matcher(row.split("\\|").length > 1 ? row.split("\\|")[1] : "");
            while (m.find()) {
                many++;
                Check.due("a line of a land: " + m.group(1),
                    Check.landText(new DegreeLaws(), "ward 0;ward 0;" + m.group(1) + ";"), 3);
            }
        }
        Check.due("lines told", many, 7);
    }

    private static void calls(String text) {
        for (Method m : DegreeLaws.class.getDeclaredMethods()) {
            if (Modifier.isPublic(m.getModifiers())) {
                Check.due("README.md names " + m.getName(), text.contains("`" + m.getName() + "`") ? 1 : 0, 1);
            }
        }
    }
}
