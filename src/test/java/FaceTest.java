import java.io.IOException;
import java.lang.reflect.Constructor;
import java.lang.reflect.Field;
import java.lang.reflect.Method;
import java.lang.reflect.Modifier;
import java.nio.file.Files;
import java.nio.file.Path;
import java.util.Set;
import java.util.TreeSet;
import java.util.regex.Matcher;
import java.util.regex.Pattern;

/** The public face is the document's, no more and no less, and the source keeps to what can be seen of LANGUAGE.md. */
public final class FaceTest {
    private static final String[] FACE = {
        "int feed(int,int,int,int,int)",
        "int land(int) IllegalArgumentException",
        "int fault(int)",
        "int ward(int,int) NoSuchElementException IllegalArgumentException",
        "int act(int,int) NoSuchElementException IllegalArgumentException",
        "int degree(int,int) NoSuchElementException IllegalArgumentException",
        "int code(int,int) NoSuchElementException IllegalArgumentException",
        "int fine(int,int,int,int) NoSuchElementException IllegalArgumentException",
        "boolean lawful(int,int,int,int) NoSuchElementException IllegalArgumentException",
        "int fire(int,int,int) NoSuchElementException IllegalArgumentException",
        "int ice(int,int,int) NoSuchElementException IllegalArgumentException",
        "int amend(int,int,int) NoSuchElementException IllegalArgumentException",
        "int repeal(int) NoSuchElementException IllegalStateException",
        "int hours(int) IllegalArgumentException",
        "int done(int,int,int) NoSuchElementException IllegalArgumentException",
        "int undo(int) IllegalArgumentException",
        "int judge(int,int) NoSuchElementException IllegalStateException IllegalArgumentException",
        "int perform(int) NoSuchElementException IllegalStateException",
        "int season(int,int) IllegalArgumentException",
        "int soonest(int,int,int) NoSuchElementException IllegalArgumentException",
        "int where(int,int) IllegalArgumentException",
        "int cheapest(int,int,int) NoSuchElementException IllegalArgumentException",
        "int freeHours(int,int,int) NoSuchElementException IllegalArgumentException",
        "int spell(int,int,int,int) NoSuchElementException IllegalArgumentException",
        "int lawless(int) NoSuchElementException",
        "int alwaysBarred()",
        "int strictest()",
        "int heat(int,int,int,int) NoSuchElementException IllegalArgumentException",
        "int leastHeat(int,int,int) NoSuchElementException IllegalArgumentException",
        "int cover(int,int,int) NoSuchElementException IllegalArgumentException",
        "int widen(int,int) NoSuchElementException",
        "int heaviest(int) NoSuchElementException",
        "int freeWay(int,int,int) NoSuchElementException IllegalArgumentException",
        "int freeAt(int,int,int,int) NoSuchElementException IllegalArgumentException",
        "int wayFine(int,int,int,int) NoSuchElementException IllegalArgumentException",
        "long freeWays(int,int,int,int) NoSuchElementException IllegalArgumentException",
        "int guard(int,int,int) NoSuchElementException IllegalArgumentException",
        "int errands(int) NoSuchElementException IllegalStateException IllegalArgumentException",
        "int bestOrder(int,int) NoSuchElementException IllegalStateException IllegalArgumentException",
        "int seen(int,int,int) NoSuchElementException IllegalStateException IllegalArgumentException",
        "int breath(int,int,int,int) NoSuchElementException IllegalStateException IllegalArgumentException",
        "int look(int,int,int) NoSuchElementException IllegalStateException IllegalArgumentException",
        "void tray(int,int,int) NoSuchElementException IllegalArgumentException",
        "long write(int,int,long) NoSuchElementException IllegalStateException IndexOutOfBoundsException",
        "int copy(int,int) NoSuchElementException IllegalStateException",
        "void image(int) NoSuchElementException",
        "void restore(int) NoSuchElementException IllegalStateException",
        "int count(int)"};

    public static void main(String[] args) throws IOException {
        face();
        document();
        members();
        classesInside();
        source(Files.readString(Path.of("src/main/java/DegreeLaws.java")));
        Check.end();
    }

    private static String told(Method m) {
        StringBuilder b = new StringBuilder(m.getReturnType().getName() + " " + m.getName() + "(");
        for (Class<?> p : m.getParameterTypes()) {
            b.append(b.charAt(b.length() - 1) == '(' ? "" : ",").append(p.getName());
        }
        b.append(")");
        for (Class<?> e : m.getExceptionTypes()) {
            b.append(" ").append(e.getSimpleName());
        }
        return b.toString();
    }

    private static void face() {
        Set<String> want = new TreeSet<>(Set.of(FACE));
        Set<String> names = new TreeSet<>();
        for (String s : FACE) {
            names.add(s.replaceAll(".* (.*)\\(.*", "$1"));
        }
        for (Method m : DegreeLaws.class.getDeclaredMethods()) {
            if (Modifier.isPublic(m.getModifiers())) {
                Check.due(told(m) + " is of the face", want.remove(told(m)) ? 1 : 0, 1);
                Check.due(m + " is static", Modifier.isStatic(m.getModifiers()) ? 1 : 0, 0);
            } else {
                Check.due(m + " is private", Modifier.isPrivate(m.getModifiers()) ? 1 : 0, 1);
                Check.due(m + " bears a public name", names.contains(m.getName()) ? 1 : 0, 0);
            }
        }
        for (String s : want) {
            Check.due(s + " is there", 0, 1);
        }
    }

    /** The face above is the document's, where the document is at hand. */
    private static void document() throws IOException {
        Path path = Path.of("../shared/DOC.md");
        if (!Files.exists(path)) {
            return;
        }
        Pattern call = Pattern.compile(" {4}public (\\w+ \\w+)\\((.*)\\)(?: throws (.*))?;");
        Set<String> told = new TreeSet<>();
        for (String line : Files.readAllLines(path)) {
            Matcher m = call.matcher(line);
            if (m.matches()) {
                String takes = m.group(2).replaceAll(" \\w+(, )?", ",").replaceAll(",$", "");
                String throwing = m.group(3) == null ? "" : " " + m.group(3).replace(",", "");
                told.add(m.group(1) + "(" + takes + ")" + throwing);
            }
        }
        Check.due("the document's face: " + told, told.equals(new TreeSet<>(Set.of(FACE))) ? 1 : 0, 1);
    }

    private static void members() {
        Check.due("public and final", DegreeLaws.class.getModifiers() & (Modifier.PUBLIC | Modifier.FINAL),
            Modifier.PUBLIC | Modifier.FINAL);
        Constructor<?>[] made = DegreeLaws.class.getDeclaredConstructors();
        Check.due("one constructor", made.length, 1);
        Check.due("it is public", Modifier.isPublic(made[0].getModifiers()) ? 1 : 0, 1);
        Check.due("it takes nothing", made[0].getParameterCount(), 0);
        int own = 0;
        for (Field f : DegreeLaws.class.getDeclaredFields()) {
            boolean none = f.getName().equals("NONE");
            Check.due(f + " is private", Modifier.isPrivate(f.getModifiers()) ? 1 : 0, none ? 0 : 1);
            own += Modifier.isStatic(f.getModifiers()) ? 0 : 1;
        }
        Check.due("twenty fields at most", own <= 20 ? 1 : 0, 1);
    }

    private static void classesInside() {
        Class<?>[] inside = DegreeLaws.class.getDeclaredClasses();
        Check.due("twelve classes at most", inside.length < 12 ? 1 : 0, 1);
        for (Class<?> c : inside) {
            Check.due(c + " is static", Modifier.isStatic(c.getModifiers()) ? 1 : 0, 1);
            Check.due(c + " is public", Modifier.isPublic(c.getModifiers()) ? 1 : 0, 0);
            int own = 0;
            for (Field f : c.getDeclaredFields()) {
                boolean isStatic = Modifier.isStatic(f.getModifiers());
                own += isStatic ? 0 : 1;
                Class<?> t = f.getType();
                boolean plain = t == int.class || t == long.class || t == boolean.class || t == char.class || t == String.class;
                Check.due(f + " is a constant", !isStatic || Modifier.isFinal(f.getModifiers()) && plain ? 1 : 0, 1);
            }
            Check.due(c + " has twenty fields at most", own <= 20 ? 1 : 0, 1);
            for (Method m : c.getDeclaredMethods()) {
                Check.due(m + " takes seven at most", m.getParameterCount() <= 7 ? 1 : 0, 1);
            }
        }
    }

    private static void source(String text) {
        String bare = text.replaceAll("(?s)/\\*.*?\\*/", "").replaceAll("//[^\n]*", "").replaceAll("\"[^\"\n]*\"", "\"\"");
        String[] out = {"->", "::", "\\btry\\b", "\\bcatch\\b", "\\bfinally\\b", "\\bsynchronized\\b", "\\bassert\\b",
            "\\bpackage\\b", "Exact\\(", "\\bObject\\b", "\\bdouble\\b", "\\bfloat\\b", "\\bMAX_VALUE\\b", "\\bhashCode\\b",
            "\\btoString\\b", "\\bSystem\\.(?!arraycopy)", "\\bgetMessage\\b", "\\bprotected\\b", "\"\" \\+", "\\+ \"\""};
        for (String s : out) {
            Check.due(s + " stands in the source", bare.matches("(?s).*" + s + ".*") ? 1 : 0, 0);
        }
        for (String line : bare.split("\n")) {
            if (line.startsWith("import ")) {
                Check.due(line, line.equals("import java.util.Arrays;")
                    || line.equals("import java.util.NoSuchElementException;") ? 1 : 0, 1);
            }
        }
        int begun = 0;
        String name = "";
        String[] lines = bare.split("\n");
        for (int i = 0; i < lines.length; i++) {
            if (lines[i].matches(" {4,8}[a-z].*\\) (throws [A-Za-z, ]+)?\\{")) {
                begun = i;
                name = lines[i];
            }
            boolean ends = lines[i].equals("    }") || lines[i].equals("        }");
            Check.due(name + " is sixty lines at most", ends && i - begun > 60 && !name.isEmpty() ? 1 : 0, 0);
            if (ends) {
                name = "";
            }
        }
    }
}
