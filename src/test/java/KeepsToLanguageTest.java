import java.lang.reflect.Field;
import java.lang.reflect.Method;
import java.lang.reflect.Modifier;
import java.util.regex.Matcher;
import java.util.regex.Pattern;

/** Those rules of ../shared/LANGUAGE.md that a look at the text of the class, or at what is in it, can tell. */
final class KeepsToLanguageTest {
    private static final String[] NOT_THERE = {
        "\\bthrows?\\b", "\\btry\\b", "\\bcatch\\b", "\\bfinally\\b", "\\bsynchronized\\b", "\\bassert\\b",
        "->", "::", "Exact\\b", "\\bprotected\\b", "\\bpackage\\b", "\\bvar\\b", "\\bObject\\b", "\\bSystem\\.(?!arraycopy\\b)",
        "\\bimport (?!java\\.util\\.(Arrays|ArrayList|List|Iterator);)", "\\bstatic \\{", "[^\\x00-\\x7f]", "\\bwhile\\b",
        "\\bMath\\.(?!min\\b|max\\b|abs\\b)", "\\bInteger\\.(?!bitCount\\b)", "\\bLong\\.(?!MIN_VALUE\\b)",
        "\\bArrays\\.(?!fill\\b|copyOf\\b|copyOfRange\\b)", "\\bthis::", "\\$", "\\bhashCode\\b", "\\btoString\\b", "\\bRandom\\b",
    };
    private static final int MOST_LINES = 60, MOST_CLASSES = 12, MOST_PARAMETERS = 7, MOST_FIELDS = 20;

    public static void main(String[] args) {
        String text = Doc.read("src/main/java/MiddleSpeaks.java");
        String code = text.replaceAll("(?s)/\\*.*?\\*/", "").replaceAll("//[^\n]*", "");
        for (String wrong : NOT_THERE) {
            Matcher m = Pattern.compile(wrong).matcher(code);
            Due.is("how often " + wrong, m.find() ? 1 : 0, 0);
        }
        Due.is("no more classes", count(code, "(?m)^    private static final class ") <= MOST_CLASSES ? 1 : 0, 1);
        Due.is("no other classes", count(code, "\\b(class|interface|enum|record) [A-Z]"),
            1 + count(code, "(?m)^    private static final class "));
        Due.is("public ones", count(code, "\\bpublic\\b"), 1 + 2 + 1 + 34);
        methodsAreShort(code);
        callsMakeNothing(code);
        classKeeps(MiddleSpeaks.class);
        for (Class<?> inside : MiddleSpeaks.class.getDeclaredClasses()) {
            Due.is(inside + " is static", Modifier.isStatic(inside.getModifiers()) ? 1 : 0, 1);
            Due.is(inside + " is not seen", Modifier.isPublic(inside.getModifiers()) ? 1 : 0, 0);
            classKeeps(inside);
        }
        Due.end();
    }

    /** All is made by fields and by the constructor. */
    private static void callsMakeNothing(String code) {
        int made = code.indexOf("public MiddleSpeaks() {");
        int calls = code.indexOf("public int person(");
        String others = code.substring(0, made) + code.substring(calls);
        for (String line : others.split("\n")) {
            if (line.matches(".*\\bnew\\b.*")) {
                Due.is("a field makes it: " + line.trim(), line.matches(" +(private )?(static )?(final )?[\\w\\[\\]]+ \\w+ = new .*;") ? 1 : 0, 1);
            }
        }
    }

    private static void classKeeps(Class<?> some) {
        int fields = 0;
        for (Field field : some.getDeclaredFields()) {
            if (!Modifier.isStatic(field.getModifiers())) {
                fields++;
            } else {
                Due.is(field + " is final", Modifier.isFinal(field.getModifiers()) ? 1 : 0, 1);
            }
        }
        Due.is(some + " has few fields", fields <= MOST_FIELDS ? 1 : 0, 1);
        for (Method method : some.getDeclaredMethods()) {
            Due.is(method + " has few parameters", method.getParameterCount() <= MOST_PARAMETERS ? 1 : 0, 1);
            Due.is(method + " has a name of its own", !Modifier.isPublic(method.getModifiers()) && isCalled(method.getName()) ? 1 : 0, 0);
        }
    }

    private static boolean isCalled(String name) {
        for (Method call : MiddleSpeaks.class.getDeclaredMethods()) {
            if (Modifier.isPublic(call.getModifiers()) && call.getName().equals(name)) {
                return true;
            }
        }
        return false;
    }

    private static int count(String code, String what) {
        int n = 0;
        for (Matcher m = Pattern.compile(what).matcher(code); m.find();) {
            n++;
        }
        return n;
    }

    private static void methodsAreShort(String code) {
        String[] lines = code.split("\n");
        for (int i = 0; i < lines.length; i++) {
            String indent = lines[i].replaceAll("[^ ].*", "");
            if (lines[i].matches(" {4}( {4})?[A-Za-z].*\\) \\{")) {
                int end = i;
                while (end < lines.length && !lines[end].equals(indent + "}")) {
                    end++;
                }
                Due.is("a short method: " + lines[i].trim(), end - i < MOST_LINES ? 1 : 0, 1);
            }
        }
    }
}
