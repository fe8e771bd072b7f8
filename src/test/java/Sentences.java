import java.io.IOException;
import java.nio.file.Files;
import java.nio.file.Path;
import java.util.BitSet;
import java.util.Map;
import java.util.TreeMap;
import java.util.regex.Matcher;
import java.util.regex.Pattern;

/** The document's sentences: every case quotes one, and at the end each must have been quoted. */
final class Sentences {
    private static final Path DOCUMENT = Path.of("../shared/DOC.md");
    private static final int TERMS = 0;

    private final Map<Integer, String> texts = new TreeMap<>();
    private final Map<Integer, BitSet> quoted = new TreeMap<>();
    private final Map<Integer, Integer> cases = new TreeMap<>();
    private int section = TERMS;

    Sentences() throws IOException {
        if (!Files.isReadable(DOCUMENT)) {
            System.out.println("  " + DOCUMENT + " is not there: the quotes are not looked at");
            return;
        }
        String document = Files.readString(DOCUMENT);
        String calls = between(document, "An object is used for", "## The public face");
        String ahead = between(document, "======== 1 ROWS", "An object is used for");
        String terms = between(document, "## Terms\n", "Ahead of the calls");
        texts.put(TERMS, plain(ahead + " " + calls + " " + terms.replaceAll("```(text)?", " ")));
        Matcher promise = Pattern.compile("## Promise (\\d+): .*\\n\\n`[^`]*`: (.*)\\n").matcher(document);
        while (promise.find()) texts.put(Integer.parseInt(promise.group(1)), plain(promise.group(2)));
        for (int s : texts.keySet()) quoted.put(s, new BitSet());
    }

    private static String between(String text, String from, String to) {
        int start = text.indexOf(from);
        int stop = text.indexOf(to, Math.max(0, start));
        return start < 0 || stop < 0 ? "" : text.substring(start, stop).replaceFirst("^## .*\n", "");
    }

    private static String plain(String text) {
        return text.replaceAll("\\s+", " ").strip();
    }

    void ofTerms() {
        section = TERMS;
    }

    void ofPromise(int number) {
        section = number;
    }

    /** What the document says in this section, and a run of calls that shows whether it holds. */
    void says(String quote, String why, String script) {
        cases.merge(section, 1, Integer::sum);
        mark(quote);
        Script.run((section == TERMS ? "Terms" : "promise " + section) + ", \"" + quote + "\", " + why, script);
    }

    private void mark(String quote) {
        if (texts.isEmpty()) return;
        String text = texts.getOrDefault(section, "");
        int at = text.indexOf(quote);
        Check.holds("section " + section + " says \"" + quote + "\"", at >= 0);
        for (; at >= 0; at = text.indexOf(quote, at + 1)) quoted.get(section).set(at, at + quote.length());
    }

    void haveAllBeenQuoted() {
        texts.forEach((number, text) -> {
            BitSet done = quoted.get(number);
            int from = done.nextClearBit(0);
            while (from < text.length()) {
                int to = done.nextSetBit(from) < 0 ? text.length() : done.nextSetBit(from);
                String left = text.substring(from, to);
                Check.holds("section " + number + " has no case of \"" + left + "\"", !left.matches(".*\\w.*"));
                from = done.nextClearBit(to);
            }
        });
        if (!texts.isEmpty()) Check.due("sections", texts.size(), 40);
        System.out.println("  " + cases.values().stream().mapToInt(n -> n).sum() + " cases of " + cases.size() + " sections");
    }
}
