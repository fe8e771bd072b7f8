import java.io.IOException;
import java.lang.reflect.Field;
import java.lang.reflect.Member;
import java.lang.reflect.Method;
import java.lang.reflect.Modifier;
import java.nio.file.Files;
import java.nio.file.Path;
import java.util.Arrays;
import java.util.List;
import java.util.Set;
import java.util.TreeSet;
import java.util.regex.Matcher;
import java.util.regex.Pattern;

/** The face of the document, and what of ../shared/LANGUAGE.md can be seen from outside. */
public final class LanguageTest {
    private static final String[] FACE = {
        "public int row(int kind, int n)", "public int lose(int r)", "public int kind(int r)", "public int length(int r)",
        "public int put(int r, int i, long word)", "public int get(int r, int i)",
        "public int copy(int a, int i, int b, int j, int n)", "public int compare(int r, int i, int j)",
        "public int shape(int r, int i, int way)", "public int rest(int r, int i, int j)", "public int most(int r, int what)",
        "public long seen()", "public int stream()", "public int write(int s, int r, int coder)",
        "public int cost(int r, int coder)", "public int best(int r)", "public int add(int s, int b)", "public int end(int s)",
        "public int about(int s, int what)", "public int at(int s, int i)", "public int harm(int s, int i, int mask)",
        "public int seek(int s, int p)", "public int read(int s)", "public int pieces(int s)", "public int house()",
        "public int keep(int h, long path, int s)", "public int find(int h, long path)", "public int drop(int h, long path)",
        "public int list(int h, int i)", "public int take(int h, long path)", "public int uses(int body)",
        "public int delta(int a, int b)", "public int act(int d, int i, int what)", "public int apply(int d, int s)",
        "public int finding()", "public int findings(int f)", "public int count(int what)", "public long digest()"
    };
    private static final List<String> CONSTANTS = List.of("NONE", "UNKNOWN", "OUTSIDE", "STATE", "FULL");

    public static void main(String[] args) throws IOException {
        String source = Files.readString(Path.of("src/main/java/PackDesk.java"));
        String code = source.replaceAll("(?s)/\\*.*?\\*/", " ").replaceAll("//[^\n]*", " ");
        face(code);
        members();
        nested(PackDesk.class);
        words(code);
        methods(code);
        Check.finish();
    }

    private static void face(String code) {
        for (String line : FACE) Check.holds("the face has " + line, code.contains(line + " {"));
        Check.holds("the constructor", code.contains("public PackDesk() {"));
        Check.due("public members", Arrays.stream(code.split("\n")).filter(l -> l.contains("public ")).count(), FACE.length + 3);
        Check.due("NONE", PackDesk.NONE, -1);
        Check.due("UNKNOWN", PackDesk.UNKNOWN, -101);
        Check.due("OUTSIDE", PackDesk.OUTSIDE, -102);
        Check.due("STATE", PackDesk.STATE, -103);
        Check.due("FULL", PackDesk.FULL, -104);
    }

    private static void members() {
        Set<String> open = new TreeSet<>();
        for (Method m : PackDesk.class.getDeclaredMethods()) {
            if (Modifier.isPublic(m.getModifiers())) open.add(m.getName());
        }
        Check.due("public methods", open.size(), FACE.length);
        for (Member m : PackDesk.class.getDeclaredMethods()) alone(m, open.contains(m.getName()));
        for (Field m : PackDesk.class.getDeclaredFields()) alone(m, CONSTANTS.contains(m.getName()));
        Check.due("constructors", PackDesk.class.getDeclaredConstructors().length, 1);
        Check.holds("the class is final", Modifier.isFinal(PackDesk.class.getModifiers()));
        for (Class<?> inside : PackDesk.class.getDeclaredClasses()) {
            for (Method m : inside.getDeclaredMethods()) {
                Check.holds(inside.getName() + "." + m.getName() + " has a name of its own", !open.contains(m.getName()));
            }
        }
    }

    private static void alone(Member m, boolean ofTheFace) {
        int how = m.getModifiers();
        Check.holds(m.getName() + " is public or private as due", ofTheFace ? Modifier.isPublic(how) : Modifier.isPrivate(how));
    }

    private static void nested(Class<?> outer) {
        Class<?>[] inside = outer.getDeclaredClasses();
        Check.holds("some twelve classes", inside.length + 1 <= 12);
        for (Class<?> c : inside) {
            Check.holds(c.getName() + " is static", Modifier.isStatic(c.getModifiers()));
            Check.due(c.getName() + " has no classes", c.getDeclaredClasses().length, 0);
            fields(c);
        }
        fields(outer);
    }

    private static void fields(Class<?> c) {
        int own = 0;
        for (Field f : c.getDeclaredFields()) {
            if (Modifier.isStatic(f.getModifiers())) Check.holds(f + " is final", Modifier.isFinal(f.getModifiers()));
            else own++;
        }
        Check.holds(c.getName() + " has some twenty fields", own <= 20);
    }

    private static void words(String code) {
        String[] never = {
            "throw", "throws", "try", "catch", "finally", "synchronized", "assert", "import", "package", "protected", "var",
            "double", "float", "Double", "Float", "Object", "hashCode", "toString", "Override", "native", "volatile", "transient"
        };
        for (String word : never) Check.holds("no " + word, !Pattern.compile("\\b" + word + "\\b").matcher(code).find());
        for (String sign : new String[] {"->", "::", "\"", "@"}) Check.holds("no " + sign, !code.contains(sign));
        Matcher library = Pattern.compile("\\b(Math|Long|Integer|System|Arrays|Character|Byte|Short|Boolean)\\.(\\w+)").matcher(code);
        Set<String> listed = Set.of("Math.min", "Math.max", "Long.compare", "System.arraycopy");
        while (library.find()) Check.holds(library.group() + " is in the library", listed.contains(library.group()));
    }

    private static void methods(String code) {
        Matcher head = Pattern.compile("\\n( {4}| {8})(?! )[\\w\\[\\] ]+ \\w+\\(([^)]*)\\) \\{\\n").matcher(code);
        int n = 0;
        while (head.find()) {
            n++;
            String name = head.group().trim();
            Check.holds(name + " has at most seven parameters", head.group(2).split(",").length <= 7);
            int close = code.indexOf("\n" + head.group(1) + "}\n", head.end() - 1);
            Check.holds(name + " is short", code.substring(head.end() - 1, close).lines().count() <= 60);
        }
        Check.holds("the methods were seen", n > FACE.length);
    }
}
