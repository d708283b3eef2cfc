import java.lang.reflect.Constructor;
import java.lang.reflect.Field;
import java.lang.reflect.Method;
import java.lang.reflect.Modifier;
import java.util.ArrayList;
import java.util.List;
import java.util.regex.Matcher;
import java.util.regex.Pattern;

/** The face is the document's, call by call, and nothing else can be seen from outside. */
final class FaceTest {
    private static final String SOURCE = "src/main/java/MiddleSpeaks.java";
    private static final Pattern CALL = Pattern.compile("(?m)^    public (int|long) (\\w+)\\(([^)]*)\\);");

    public static void main(String[] args) {
        calls();
        constants();
        nothingElse();
        headings();
        Due.end();
    }

    /** Those calls that the document's block of Java tells. */
    private static void calls() {
        int told = 0;
        for (Matcher m = CALL.matcher(Doc.whole()); m.find();) {
            told++;
            Due.is("there is " + m.group(), isThere(m.group(1), m.group(2), m.group(3)) ? 1 : 0, 1);
        }
        Due.is("how many calls the document tells", told, 34);
        int all = 0;
        for (Method call : MiddleSpeaks.class.getDeclaredMethods()) {
            all += Modifier.isPublic(call.getModifiers()) ? 1 : 0;
        }
        Due.is("how many public ones there are", all, told);
    }

    private static boolean isThere(String answer, String name, String told) {
        for (Method call : MiddleSpeaks.class.getDeclaredMethods()) {
            StringBuilder types = new StringBuilder();
            for (Class<?> type : call.getParameterTypes()) {
                types.append(types.length() == 0 ? "" : ", ").append(type.getName());
            }
            if (call.getName().equals(name) && call.getModifiers() == Modifier.PUBLIC
                && call.getReturnType().getName().equals(answer) && types.toString().equals(told.replaceAll(" \\w+(?=,|$)", ""))) {
                return true;
            }
        }
        return false;
    }

    private static void constants() {
        List<String> names = new ArrayList<>();
        for (Field field : MiddleSpeaks.class.getDeclaredFields()) {
            if (!Modifier.isPrivate(field.getModifiers())) {
                names.add(field.getType().getName() + " " + field.getName());
                Due.is(field.getName() + " is public static final", field.getModifiers(),
                    Modifier.PUBLIC | Modifier.STATIC | Modifier.FINAL);
            }
        }
        names.sort(null);
        Due.is("the constants are " + names,
            names.toString().equals("[int BAD, int FULL, int NONE, int STATE, long NO]") ? 1 : 0, 1);
        Due.is("NONE", MiddleSpeaks.NONE, -1);
        Due.is("BAD", MiddleSpeaks.BAD, -2);
        Due.is("STATE", MiddleSpeaks.STATE, -3);
        Due.is("FULL", MiddleSpeaks.FULL, -4);
        Due.is("NO", MiddleSpeaks.NO, Long.MIN_VALUE);
    }

    private static void nothingElse() {
        Due.is("public and final", MiddleSpeaks.class.getModifiers(), Modifier.PUBLIC | Modifier.FINAL);
        Due.is("constructors", MiddleSpeaks.class.getDeclaredConstructors().length, 1);
        for (Constructor<?> made : MiddleSpeaks.class.getDeclaredConstructors()) {
            Due.is("public", made.getModifiers(), Modifier.PUBLIC);
            Due.is("of nothing", made.getParameterCount(), 0);
        }
        for (Method call : MiddleSpeaks.class.getDeclaredMethods()) {
            boolean isEither = Modifier.isPublic(call.getModifiers()) || Modifier.isPrivate(call.getModifiers());
            Due.is(call + " is public or private", isEither || call.isSynthetic() ? 1 : 0, 1);
        }
    }

    /** Ahead of which calls the source says which heading. */
    private static void headings() {
        String source = Doc.read(SOURCE);
        int told = 0;
        int end = 0;
        for (Matcher m = Pattern.compile("Ahead of the calls ([^\n]*) the interface says: (---- [^\n]*)\\.\n").matcher(Doc.whole()); m.find();) {
            int heading = source.indexOf("    // " + m.group(2) + "\n");
            Due.is("'" + m.group(2) + "' stands behind the calls ahead of it", heading > end ? 1 : 0, 1);
            end = heading;
            for (Matcher call = Pattern.compile("`(\\w+)`").matcher(m.group(1)); call.find();) {
                Matcher there = Pattern.compile("\n    public \\w+ " + call.group(1) + "\\(").matcher(source);
                Due.is(call.group(1) + " comes next", there.find() && there.start() > end ? 1 : 0, 1);
                end = there.start();
            }
            told++;
        }
        Due.is("how many headings the document tells", told, 5);
    }
}
