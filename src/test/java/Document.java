import java.io.IOException;
import java.nio.file.Files;
import java.nio.file.Path;
import java.util.Arrays;
import java.util.LinkedHashMap;
import java.util.Map;
import java.util.regex.Matcher;
import java.util.regex.Pattern;

/** The document's Terms and promises, and which of their words have a test. */
final class Document {
    private static final Path PLACE = Path.of("../shared/DOC.md");
    private static final Pattern HEADS = Pattern.compile("(?m)^(?:==== (\\d+)\\. |## (Promise \\d+): .*$|## .*$|The constants: )");

    private final Map<String, String> texts = new LinkedHashMap<>();
    private final Map<String, boolean[]> tested = new LinkedHashMap<>();

    static boolean isThere() {
        return Files.exists(PLACE);
    }

    Document() throws IOException {
        String all = Files.readString(PLACE);
        Matcher head = HEADS.matcher(all);
        String name = null;
        int from = 0;
        while (head.find()) {
            take(name, all.substring(from, head.start()));
            name = head.group(1) != null ? "Terms " + head.group(1) : head.group(2);
            if (head.group().startsWith("The constants")) {
                name = "The constants";
            }
            from = head.end();
        }
        take(name, all.substring(from));
    }

    private void take(String name, String text) {
        if (name != null) {
            String words = text.replaceAll("```\\w*", "").replaceAll("\\s+", " ").trim();
            String said = words.replaceFirst("^`(?:int|boolean)? ?\\w+\\([^`]*\\)`: ", "");
            texts.put(name, said);
            tested.put(name, new boolean[said.length()]);
        }
    }

    /** Whether these words stand there; they have a test then. */
    boolean marks(String name, String words) {
        String text = texts.getOrDefault(name, "");
        boolean[] done = tested.get(name);
        int from = text.indexOf(words);
        if (from < 0 || words.isEmpty()) {
            return false;
        }
        // Words that stand there more than once take the first place that has no test yet.
        for (int i = from; i >= 0 && done[from]; i = text.indexOf(words, i + 1)) {
            from = done[i] ? from : i;
        }
        Arrays.fill(done, from, from + words.length(), true);
        return true;
    }

    /** Tells all words that have no test. */
    void tellTheRest() {
        for (String name : texts.keySet()) {
            StringBuilder rest = new StringBuilder();
            boolean[] done = tested.get(name);
            for (int i = 0; i < done.length; i++) {
                rest.append(done[i] ? '|' : texts.get(name).charAt(i));
            }
            String untested = rest.toString().replaceAll("[| ]+", " ").trim();
            Due.is(name + " has no test for \"" + untested + "\"", untested.isEmpty(), true);
        }
    }
}
