import java.io.IOException;
import java.nio.charset.StandardCharsets;
import java.nio.file.Files;
import java.nio.file.Paths;
import java.util.regex.Matcher;
import java.util.regex.Pattern;

/** Those rules of ../shared/LANGUAGE.md that a look at the text of the class can tell. */
final class KeepsToLanguageTest {
    private static final String[] NOT_THERE = {
        "\\bthrows?\\b", "\\btry\\b", "\\bcatch\\b", "\\bfinally\\b", "\\bsynchronized\\b", "\\bassert\\b",
        "->", "::", "Exact\\b", "\\bprotected\\b", "\\bpackage\\b", "\\bvar\\b", "\\bObject\\b", "\\bSystem\\.(?!arraycopy\\b)",
        "\\bimport (?!java\\.util\\.(Arrays|ArrayList|List|Iterator);)", "\\bstatic \\{", "[^\\x00-\\x7f]", "\\bwhile\\b",
        "\\bMath\\.(?!min\\b|max\\b|abs\\b)", "\\bInteger\\.(?!bitCount\\b)", "\\bLong\\.(?!MIN_VALUE\\b)",
        "\\bArrays\\.(?!fill\\b|copyOf\\b|copyOfRange\\b)", "\\bthis::", "\\$", "\\bhashCode\\b", "\\btoString\\b", "\\bRandom\\b",
    };
    private static final int MOST_LINES = 60, MOST_CLASSES = 12;

    public static void main(String[] args) throws IOException {
        String text = new String(Files.readAllBytes(Paths.get("src/main/java/MiddleSpeaks.java")), StandardCharsets.ISO_8859_1);
        String code = text.replaceAll("(?s)/\\*.*?\\*/", "").replaceAll("//[^\n]*", "");
        for (String wrong : NOT_THERE) {
            Matcher m = Pattern.compile(wrong).matcher(code);
            Due.is("how often " + wrong, m.find() ? 1 : 0, 0);
        }
        Due.is("no more classes", count(code, "(?m)^    private static final class ") <= MOST_CLASSES ? 1 : 0, 1);
        Due.is("no other classes", count(code, "\\b(class|interface|enum|record) [A-Z]"),
            1 + count(code, "(?m)^    private static final class "));
        Due.is("public ones", count(code, "\\bpublic\\b"), 1 + 2 + 1 + 34);
        methodsAreShort(code);
        Due.end();
    }

    private static int count(String code, String what) {
        int n = 0;
        for (Matcher m = Pattern.compile(what).matcher(code); m.find();) {
            n++;
        }
        return n;
    }

    private static void methodsAreShort(String code) {
        String[] lines = code.split("\n");
        for (int i = 0; i < lines.length; i++) {
            String indent = lines[i].replaceAll("[^ ].*", "");
            if (lines[i].matches(" {4}( {4})?[A-Za-z].*\\) \\{")) {
                int end = i;
                while (end < lines.length && !lines[end].equals(indent + "}")) {
                    end++;
                }
                Due.is("a short method: " + lines[i].trim(), end - i < MOST_LINES ? 1 : 0, 1);
            }
        }
    }
}
