import java.io.IOException;
import java.nio.file.Files;
import java.nio.file.Path;
import java.util.ArrayList;
import java.util.List;

/** The document's words, and which of them a test has told: each promise's own, and those that all share. */
final class Document {
    private static final String PROMISE = "## Promise ";
    /** By promise; 0 is what all share. */
    private final String[] texts = new String[51];
    private final boolean[][] told = new boolean[51][];

    Document(Path file) throws IOException {
        StringBuilder[] parts = new StringBuilder[texts.length];
        for (int i = 0; i < parts.length; i++) {
            parts[i] = new StringBuilder();
        }
        int at = -1;
        for (String line : Files.readAllLines(file)) {
            if (line.startsWith(PROMISE)) {
                at = Integer.parseInt(line.substring(PROMISE.length(), line.indexOf(':')));
            } else if (line.startsWith("#")) {
                at = line.equals("## Terms") ? 0 : -1;
            } else if (line.startsWith("An object is used")) {
                parts[0].append(line).append(' ');
            } else if (at >= 0 && !line.startsWith("```") && !line.startsWith("Ahead of the calls")) {
                parts[at].append(at > 0 ? line.replaceFirst("^`[^`]*`: ", "") : line).append(' ');
            }
        }
        for (int i = 0; i < texts.length; i++) {
            texts[i] = parts[i].toString().replaceAll("==== \\d\\.", " ").replaceAll("\\s+", " ");
            told[i] = new boolean[texts[i].length()];
        }
    }

    /** False: neither the promise nor what all share says so. */
    boolean tell(int promise, String words) {
        boolean own = tellIn(promise, words);
        return tellIn(0, words) || own;
    }

    private boolean tellIn(int part, String words) {
        boolean found = false;
        for (int i = texts[part].indexOf(words); i >= 0; i = texts[part].indexOf(words, i + 1)) {
            found = true;
            for (int j = 0; j < words.length(); j++) {
                told[part][i + j] = true;
            }
        }
        return found;
    }

    /** The words that no test has told, each with the number of its promise (0: what all share). */
    List<String> untold() {
        List<String> left = new ArrayList<>();
        for (int part = 0; part < texts.length; part++) {
            StringBuilder words = new StringBuilder();
            for (int i = 0; i <= texts[part].length(); i++) {
                if (i < texts[part].length() && !told[part][i]) {
                    words.append(texts[part].charAt(i));
                } else {
                    if (words.toString().matches(".*[A-Za-z0-9].*")) {
                        left.add(part + ": " + words.toString().trim());
                    }
                    words.setLength(0);
                }
            }
        }
        return left;
    }
}
