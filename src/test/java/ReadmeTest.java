import java.io.File;
import java.io.IOException;
import java.nio.file.Files;
import java.nio.file.Path;
import java.util.ArrayList;
import java.util.List;
import java.util.regex.Matcher;
import java.util.regex.Pattern;

/** What README.md says: its example runs as it tells, its calls and refusals are the document's, its list of tests is whole. */
public final class ReadmeTest {
    private static final Path README = Path.of("README.md");
    private static final Path DOCUMENT = Path.of("../shared/DOC.md");
    private static final Path TESTS = Path.of("src/test/java");
    private static final Pattern PROMISE = Pattern.compile("`(?:int|long) (\\w+)\\(([^)]*)\\)`: (.*)\\n");
    private static final Pattern LINE = Pattern.compile("\\| `(\\w+)\\(([^)]*)\\)` \\|(.*)\\|(.*)\\|\\n");
    private static final Pattern REFUSAL =
            Pattern.compile("\\b(UNKNOWN|OUTSIDE|STATE|FULL|NULL|INDEX|CAST|SIZE|ZERO|ENDS|SHORT|HARMED|MISFIT)\\b");

    public static void main(String[] args) throws IOException {
        String readme = Files.readString(README);
        theExample();
        theExampleIsThere(readme);
        if (Files.isReadable(DOCUMENT)) theCalls(readme, Files.readString(DOCUMENT));
        else System.out.println("  " + DOCUMENT + " is not there: the calls are not looked at");
        theNumbers(readme);
        theTests(readme);
        Check.finish();
    }

    private static void theExample() {
        // README: from here
        PackDesk desk = new PackDesk();
        int row = desk.row(4, 3);                        // a ROW of three ints: its number
        desk.put(row, 0, 1000);
        int stream = desk.stream();
        desk.write(stream, row, desk.best(row));         // a PIECE, by the CODER that makes the fewest bytes
        int again = desk.read(stream);                   // a new ROW, with the same NUMBERS
        desk.get(again, 0);
        long first = desk.seen();                        // 1000: get() answers 0, seen() tells the NUMBER
        int beyond = desk.get(again, 3);                 // -12: a FINDING, INDEX
        int which = desk.finding();                      // 2: the latest FINDING
        boolean refused = desk.kind(99) == PackDesk.UNKNOWN;
        // README: to here
        Check.due("the example, first", first, 1000);
        Check.due("the example, beyond", beyond, -12);
        Check.due("the example, which", which, 2);
        Check.holds("the example, refused", refused);
    }

    private static void theExampleIsThere(String readme) throws IOException {
        String own = Files.readString(TESTS.resolve("ReadmeTest.java"));
        String from = "// README: from here\n", to = " ".repeat(8) + "// README: to here\n";
        int start = own.indexOf(from) + from.length();
        String example = own.substring(start, own.indexOf(to, start)).replaceAll("(?m)^ {8}", "");
        Check.holds("README.md has the example as it is run here", readme.contains("```java\n" + example + "```\n"));
    }

    private static void theCalls(String readme, String document) {
        List<String> due = new ArrayList<>();
        Matcher promise = PROMISE.matcher(document);
        while (promise.find()) {
            due.add(promise.group(1) + "(" + promise.group(2).replaceAll("(int|long) ", "") + ") " + refusals(promise.group(3)));
        }
        List<String> told = new ArrayList<>();
        Matcher line = LINE.matcher(readme);
        while (line.find()) told.add(line.group(1) + "(" + line.group(2) + ") " + refusals(line.group(4)));
        Check.due("calls of the document", due.size(), 38);
        Check.due("calls of README.md", told.size(), due.size());
        for (int k = 0; k < Math.min(due.size(), told.size()); k++) {
            Check.holds("README.md has " + told.get(k) + ", due is " + due.get(k), told.get(k).equals(due.get(k)));
        }
    }

    private static List<String> refusals(String text) {
        List<String> found = new ArrayList<>();
        Matcher refusal = REFUSAL.matcher(text);
        while (refusal.find()) found.add(refusal.group());
        return found;
    }

    private static void theNumbers(String readme) {
        String[] names = {"UNKNOWN", "OUTSIDE", "STATE", "FULL"};
        int[] numbers = {PackDesk.UNKNOWN, PackDesk.OUTSIDE, PackDesk.STATE, PackDesk.FULL};
        for (int k = 0; k < names.length; k++) has(readme, "| `PackDesk." + names[k] + "` | " + numbers[k] + " |");
        has(readme, "`PackDesk.NONE`, " + PackDesk.NONE + ",");
        String[] findings = {"NULL", "INDEX", "CAST", "SIZE", "ZERO", "ENDS", "SHORT", "HARMED", "MISFIT"};
        for (int f = 1; f <= 9; f++) has(readme, "| " + findings[f - 1] + " | " + f + " | " + (-10 - f) + " |");
        has(readme, "at most " + Script.MOST_CALLS + " calls");
        has(readme, "bash .ci/run");
    }

    private static void theTests(String readme) {
        File[] files = TESTS.toFile().listFiles((folder, name) -> name.endsWith("Test.java"));
        Check.holds("there are tests", files != null && files.length > 0);
        if (files == null) return;
        for (File file : files) has(readme, "| `" + file.getName().replace(".java", "") + "` |");
    }

    private static void has(String readme, String words) {
        Check.holds("README.md says " + words, readme.contains(words));
    }
}
