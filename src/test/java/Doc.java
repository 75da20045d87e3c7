import java.io.IOException;
import java.nio.charset.StandardCharsets;
import java.nio.file.Files;
import java.nio.file.Path;
import java.util.Arrays;
import java.util.Map;
import java.util.TreeMap;
import java.util.regex.Matcher;
import java.util.regex.Pattern;

/** The sentences of the document, and which of them a test has quoted. */
final class Doc {
    static final int TERMS = 0;
    static final int PROMISES = 58;

    private final Map<Integer, String> texts = new TreeMap<>();
    private final Map<Integer, boolean[]> quoted = new TreeMap<>();

    Doc() {
        String all;
        try {
            all = Files.readString(Path.of("../shared/DOC.md"), StandardCharsets.UTF_8);
        } catch (IOException e) {
            throw new IllegalStateException(e);
        }
        add(TERMS, all.substring(all.indexOf("## Terms") + 8, all.indexOf("Ahead of the calls `tray`")));
        Matcher promise = Pattern.compile("(?s)## Promise (\\d+): \\S[^\n]*\n+`[^`]*`:(.*?)(?=\n## )").matcher(all);
        while (promise.find()) {
            add(Integer.parseInt(promise.group(1)), promise.group(2));
        }
        if (texts.size() != PROMISES + 1) {
            throw new IllegalStateException("the document has " + texts.size() + " parts");
        }
    }

    private void add(int part, String text) {
        String plain = text.replaceAll("```\\w*", " ").replaceAll("==== \\d\\.", " ").replaceAll("\\s+", " ").trim();
        texts.put(part, plain);
        quoted.put(part, new boolean[plain.length()]);
    }

    /** Where a sentence stands more than once, all of them are quoted. */
    boolean quote(int part, String sentence) {
        String text = texts.getOrDefault(part, "");
        int from = text.indexOf(sentence);
        boolean found = from >= 0 && !sentence.isEmpty();
        while (found && from >= 0) {
            Arrays.fill(quoted.get(part), from, from + sentence.length(), true);
            from = text.indexOf(sentence, from + 1);
        }
        return found;
    }

    /** What of a part no test has quoted, but for blanks and points. */
    String left(int part) {
        StringBuilder made = new StringBuilder();
        String text = texts.get(part);
        for (int i = 0; i < text.length(); i++) {
            if (!quoted.get(part)[i]) {
                made.append(text.charAt(i));
            } else if (made.length() > 0 && made.charAt(made.length() - 1) != '|') {
                made.append('|');
            }
        }
        return made.toString().replaceAll("[\\s.,;:|]*\\|[\\s.,;:|]*", "|").replaceAll("^[\\s.,;:|]+|[\\s.,;:|]+$", "");
    }
}
