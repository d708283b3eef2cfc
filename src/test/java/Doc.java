import java.io.IOException;
import java.nio.charset.StandardCharsets;
import java.nio.file.Files;
import java.nio.file.Paths;
import java.util.ArrayList;
import java.util.List;
import java.util.regex.Matcher;
import java.util.regex.Pattern;

/** The document: what its terms and its promises say, and what of that a test has stood for. */
final class Doc {
    static final int PROMISES = 35;
    private static final String WHOLE = read("../shared/DOC.md");
    /** Place 0 is for the terms, the others are for the promises. */
    private static final String[] SAYS = new String[PROMISES + 1];
    private static final String[] FACES = new String[PROMISES + 1];
    private static final boolean[][] STOOD_FOR = new boolean[PROMISES + 1][];

    static {
        SAYS[0] = terms();
        for (int promise = 1; promise <= PROMISES; promise++) {
            String ahead = "(?s)## Promise " + promise + ": \\w[^\n]*\n+";
            FACES[promise] = found(ahead + "`([^`]*)`:");
            SAYS[promise] = folded(found(ahead + "`[^`]*`:(.*?)\n## "));
        }
        for (int part = 0; part <= PROMISES; part++) {
            STOOD_FOR[part] = new boolean[SAYS[part].length()];
        }
    }

    private Doc() {
    }

    static String whole() {
        return WHOLE;
    }

    /** Which constructor or call a promise is for. */
    static String face(int promise) {
        return FACES[promise];
    }

    static String says(int promise) {
        return SAYS[promise];
    }

    /** Whether it says these words somewhere. */
    static boolean hasWords(String words) {
        return folded(WHOLE).contains(folded(words));
    }

    static String read(String file) {
        try {
            return new String(Files.readAllBytes(Paths.get(file)), StandardCharsets.UTF_8);
        } catch (IOException e) {
            throw new IllegalStateException(file + " can't be read", e);
        }
    }

    /** Those words that the document says just once in a part; whether it does. */
    static boolean standFor(int part, String words) {
        int at = SAYS[part].indexOf(words);
        if (at < 0 || SAYS[part].indexOf(words, at + 1) >= 0) {
            return false;
        }
        for (int i = at; i < at + words.length(); i++) {
            STOOD_FOR[part][i] = true;
        }
        return true;
    }

    /** All words that no test has stood for. */
    static List<String> leftOut() {
        List<String> left = new ArrayList<>();
        for (int part = 0; part <= PROMISES; part++) {
            StringBuilder run = new StringBuilder();
            for (int i = 0; i <= SAYS[part].length(); i++) {
                if (i < SAYS[part].length() && !STOOD_FOR[part][i]) {
                    run.append(SAYS[part].charAt(i));
                } else {
                    if (!run.toString().trim().isEmpty()) {
                        left.add(part + ": " + run.toString().trim());
                    }
                    run.setLength(0);
                }
            }
        }
        return left;
    }

    /** What stands ahead of the calls is about the face; it has a test of its own. */
    private static String terms() {
        String all = found("(?s)\n## Terms\n(.*?)\n## Promise 1:");
        return folded(all.replaceAll("```(text)?", " ").replaceAll("==== \\d", " ").replaceAll("\nAhead of the calls [^\n]*", " "));
    }

    private static String found(String pattern) {
        Matcher m = Pattern.compile(pattern).matcher(WHOLE);
        if (!m.find()) {
            throw new IllegalStateException("the document has no " + pattern);
        }
        return m.group(1);
    }

    private static String folded(String text) {
        return text.replaceAll("\\s+", " ").trim();
    }
}
