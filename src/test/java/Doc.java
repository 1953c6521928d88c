import java.io.IOException;
import java.nio.file.Files;
import java.nio.file.Path;
import java.util.BitSet;
import java.util.Map;
import java.util.TreeMap;
import java.util.regex.Matcher;
import java.util.regex.Pattern;

/** The document's words by promises, and which of them a test has quoted. */
final class Doc {
    static final int TERMS = 0, PROMISES = 41;
    private static final Pattern HEADING = Pattern.compile("(?m)^## (.*)$");
    private static final Pattern NUMBERED = Pattern.compile("Promise (\\d+): .*");

    private final Map<Integer, String> sections = new TreeMap<>();
    private final Map<Integer, BitSet> quoted = new TreeMap<>();

    Doc(Path file) throws IOException {
        String text = Files.readString(file);
        Matcher heading = HEADING.matcher(text);
        String name = "";
        int from = 0;
        while (heading.find()) {
            keep(name, text.substring(from, heading.start()));
            name = heading.group(1);
            from = heading.end();
        }
        keep(name, text.substring(from));
    }

    private void keep(String name, String text) {
        Matcher numbered = NUMBERED.matcher(name);
        String words = text.replaceAll("\\s+", " ");
        if (numbered.matches()) {
            sections.put(Integer.parseInt(numbered.group(1)), words);
        } else if (name.equals("What it is") || name.equals("Terms")) {
            sections.merge(TERMS, words, String::concat);
        }
    }

    /** Whether these words stand there; then they are quoted from now on. */
    boolean says(int promise, String words) {
        String section = sections.getOrDefault(promise, "");
        int at = section.indexOf(words);
        if (at < 0) {
            return false;
        }
        quoted.computeIfAbsent(promise, p -> new BitSet()).set(at, at + words.length());
        return true;
    }

    boolean isQuoted(int promise) {
        return quoted.containsKey(promise);
    }

    /** For who reads the document again: what no test has quoted. */
    void printRest() {
        for (Map.Entry<Integer, String> section : sections.entrySet()) {
            BitSet seen = quoted.getOrDefault(section.getKey(), new BitSet());
            String words = section.getValue();
            for (int at = seen.nextClearBit(0); at < words.length(); ) {
                int end = seen.nextSetBit(at) < 0 ? words.length() : seen.nextSetBit(at);
                if (words.substring(at, end).matches(".*\\w.*")) {
                    System.out.println("not quoted, " + section.getKey() + ": " + words.substring(at, end));
                }
                at = seen.nextClearBit(end);
            }
        }
    }
}
