import java.io.IOException;
import java.nio.file.Files;
import java.nio.file.Path;
import java.util.BitSet;
import java.util.LinkedHashMap;
import java.util.Map;
import java.util.regex.Matcher;
import java.util.regex.Pattern;

/**
 * The document, by its parts ("Term 1", "Promise 1", ..), and which of its words were quoted by
 * tests: a quote that does not stand there, and a word that no test quotes, are both faults.
 */
final class Document {
    private static final String CONSTANTS = "The constants";
    private static final String USE = "What it is";

    private final Map<String, String> parts = new LinkedHashMap<>();
    private final Map<String, BitSet> quoted = new LinkedHashMap<>();

    Document(Path path) throws IOException {
        String text = Files.readString(path);
        for (String section : text.split("(?m)^## ")) {
            String title = section.lines().findFirst().orElse("");
            String body = section.substring(title.length());
            Matcher promise = Pattern.compile("(Promise \\d+): .*").matcher(title);
            if (promise.matches()) {
                add(promise.group(1), body.replaceFirst("`[^`]*`:", ""));
            } else if (title.equals("Terms")) {
                addTerms(body);
            } else if (title.equals(USE)) {
                // its first words are what the whole class is for, told by the promises
                add(USE, body.substring(body.lastIndexOf("An object is used")));
            }
        }
    }

    private void addTerms(String body) {
        int end = body.indexOf(CONSTANTS);
        Matcher term = Pattern.compile("(?ms)^(\\d)\\. (.*?)(?=^\\d\\. |\\z)").matcher(body.substring(0, end));
        while (term.find()) {
            add("Term " + term.group(1), term.group(2).replaceAll("(?m)^```.*$", ""));
        }
        add(CONSTANTS, body.substring(end).lines().findFirst().orElse(""));
    }

    private void add(String part, String text) {
        parts.put(part, plain(text));
        quoted.put(part, new BitSet());
    }

    private static String plain(String text) {
        return text.replaceAll("\\s+", " ").strip();
    }

    int size() {
        return parts.size();
    }

    /** Marks words as quoted by a test: whether they stand in that part of the document. */
    boolean quote(String part, String words) {
        String text = parts.getOrDefault(part, "");
        int at = text.indexOf(plain(words));
        if (at < 0) {
            return false;
        }
        quoted.get(part).set(at, at + plain(words).length());
        return true;
    }

    /** The words of a part that no test quotes, or an empty text. */
    String unquoted(String part) {
        StringBuilder left = new StringBuilder(parts.get(part));
        for (int at = 0; at < left.length(); at++) {
            if (quoted.get(part).get(at)) {
                left.setCharAt(at, ' ');
            }
        }
        return left.chars().anyMatch(Character::isLetterOrDigit) ? plain(left.toString()) : "";
    }

    Iterable<String> parts() {
        return parts.keySet();
    }
}
