import java.io.IOException;
import java.nio.charset.StandardCharsets;
import java.nio.file.Files;
import java.nio.file.Path;
import java.util.ArrayList;
import java.util.BitSet;
import java.util.LinkedHashMap;
import java.util.List;
import java.util.Map;
import java.util.regex.Matcher;
import java.util.regex.Pattern;

/** The words of ../shared/DOC.md under each of its headings, and which of them some test has quoted. */
final class Document {
    private static final Path PATH = Path.of("../shared/DOC.md");
    private static final Pattern TERMS = Pattern.compile("==== (\\d+)\\. (.*)");
    private static final Pattern PROMISE = Pattern.compile("## (Promise \\d+): .*");
    private static final Pattern SIGNATURE = Pattern.compile("^`[^`]*\\)`: ");

    private final Map<String, String> words = new LinkedHashMap<>();
    private final Map<String, BitSet> quoted = new LinkedHashMap<>();

    Document() throws IOException {
        String heading = "";
        for (String line : Files.readAllLines(PATH, StandardCharsets.UTF_8)) {
            Matcher terms = TERMS.matcher(line);
            Matcher promise = PROMISE.matcher(line);
            if (terms.matches()) {
                heading = "Terms " + terms.group(1);
                add(heading, terms.group(2));
            } else if (promise.matches()) {
                heading = promise.group(1);
            } else if (line.startsWith("## ")) {
                heading = line.substring(3);
            } else if (!line.startsWith("```")) {
                add(heading, SIGNATURE.matcher(line).replaceFirst(""));
            }
        }
        for (String one : words.keySet()) {
            quoted.put(one, new BitSet());
        }
    }

    private void add(String heading, String line) {
        words.merge(heading, line, (ahead, more) -> (ahead + " " + more).replaceAll("\\s+", " "));
    }

    /** Whether these words stand under the heading; they are quoted then. */
    boolean quotes(String heading, String sentence) {
        int from = words.getOrDefault(heading, "").indexOf(sentence);
        if (from >= 0) {
            quoted.get(heading).set(from, from + sentence.length());
        }
        return from >= 0;
    }

    /** The runs of words under the terms and the promises that no test has quoted. */
    List<String> unquoted() {
        List<String> runs = new ArrayList<>();
        for (String heading : words.keySet()) {
            if (heading.startsWith("Terms ") || heading.startsWith("Promise ")) {
                String all = words.get(heading);
                BitSet bits = quoted.get(heading);
                for (int from = bits.nextClearBit(0); from < all.length(); from = bits.nextClearBit(from)) {
                    int to = bits.nextSetBit(from) < 0 ? all.length() : bits.nextSetBit(from);
                    if (all.substring(from, to).matches(".*[A-Za-z0-9].*")) {
                        runs.add(heading + ": " + all.substring(from, to));
                    }
                    from = to;
                }
            }
        }
        return runs;
    }

    int headings() {
        return words.size();
    }
}
