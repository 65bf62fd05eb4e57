import java.io.IOException;
import java.nio.charset.StandardCharsets;
import java.nio.file.Files;
import java.nio.file.Path;
import java.util.ArrayList;
import java.util.List;
import java.util.regex.Matcher;
import java.util.regex.Pattern;

/** The words of the document, from 'Terms' to the last promise, and which of them some test has quoted. */
final class Document {
    static final int TERMS = 0;
    static final int PROMISES = 40;

    private final String[] parts = new String[PROMISES + 1];
    private final boolean[][] quoted = new boolean[PROMISES + 1][];

    Document(Path file) throws IOException {
        String all = new String(Files.readAllBytes(file), StandardCharsets.UTF_8);
        parts[TERMS] = between(all, "## Terms\n", "\n## Promise 1:").replaceAll("```(text)?", " ");
        for (int i = 1; i <= PROMISES; i++) {
            String end = i < PROMISES ? "\n## Promise " + (i + 1) + ":" : "\n## Not promised";
            // ahead of what is promised stand the title and the signature
            parts[i] = between(between(all, "## Promise " + i + ":", end) + "\n", "`: ", "\n");
        }
        for (int i = 0; i <= PROMISES; i++) {
            parts[i] = parts[i].replaceAll("\\s+", " ").trim();
            quoted[i] = new boolean[parts[i].length()];
        }
    }

    private static String between(String all, String ahead, String behind) {
        int from = all.indexOf(ahead) + ahead.length();
        return all.substring(from, all.indexOf(behind, from));
    }

    /** Marks a sentence as quoted; false if it does not stand in that part. */
    boolean quote(int part, String sentence) {
        int at = parts[part].indexOf(sentence);
        boolean isThere = at >= 0;
        while (at >= 0) {
            for (int i = at; i < at + sentence.length(); i++) {
                quoted[part][i] = true;
            }
            at = parts[part].indexOf(sentence, at + 1);
        }
        return isThere;
    }

    /** All words that no test has quoted, as they stand on end. */
    List<String> unquoted() {
        List<String> all = new ArrayList<>();
        for (int part = 0; part <= PROMISES; part++) {
            char[] left = parts[part].toCharArray();
            for (int i = 0; i < left.length; i++) {
                left[i] = quoted[part][i] ? '\n' : left[i];
            }
            Matcher matcher = Pattern.compile("[^\n]*[a-zA-Z0-9][^\n]*").matcher(new String(left));
            while (matcher.find()) {
                all.add((part == TERMS ? "Terms" : "promise " + part) + ": " + matcher.group().trim());
            }
        }
        return all;
    }
}
