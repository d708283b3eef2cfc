import java.io.File;
import java.io.IOException;
import java.net.URL;
import java.net.URLClassLoader;
import java.nio.charset.StandardCharsets;
import java.nio.file.Files;
import java.nio.file.Path;
import java.util.ArrayList;
import java.util.List;
import java.util.regex.Matcher;
import java.util.regex.Pattern;
import java.util.stream.Stream;

/** README.md tells what is so: its example, the face in the document's words, the project's tests. */
final class ReadmeTest {
    private static final String PAGE = Doc.read("README.md");
    private static final Pattern ANSWERED = Pattern.compile("(x\\.\\w+\\(.*\\)); +// (-?\\d+|NO): ?.*|(x\\.\\w+\\(.*\\)); +// (-?\\d+)");

    public static void main(String[] args) throws Exception {
        example();
        wholeFace();
        constants();
        words();
        commands();
        tests();
        Due.end();
    }

    /** The rows of the example are compiled as they stand; each one that tells an answer must have it. */
    private static void example() throws Exception {
        StringBuilder code = new StringBuilder("public final class Example {\n"
            + "public static java.util.List<Long> answers() {\njava.util.List<Long> all = new java.util.ArrayList<>();\n");
        List<String> calls = new ArrayList<>();
        List<Long> due = new ArrayList<>();
        String rows = found("(?s)```java\n(.*?)```");
        for (String row : rows.split("\n")) {
            Matcher m = ANSWERED.matcher(row);
            if (m.matches()) {
                boolean isTold = m.group(1) != null;
                String call = isTold ? m.group(1) : m.group(3);
                String answer = isTold ? m.group(2) : m.group(4);
                code.append("all.add((long) ").append(call).append(");\n");
                calls.add(call);
                due.add(answer.equals("NO") ? MiddleSpeaks.NO : Long.parseLong(answer));
            } else {
                Due.is("a row that tells what it answers: " + row, row.startsWith("x.") ? 0 : 1, 1);
                code.append(row).append('\n');
            }
        }
        List<?> answers = answersOf(code.append("return all;\n}\n}\n").toString());
        Due.is("as many answers", answers.size(), due.size());
        for (int i = 0; i < due.size(); i++) {
            Due.is("README's " + calls.get(i), (Long) answers.get(i), due.get(i));
        }
        for (int promise = 2; promise <= Doc.PROMISES; promise++) {
            String call = Doc.face(promise).replaceAll("\\w+ (\\w+)\\(.*", "$1");
            Due.is("the example shows " + call, rows.contains("x." + call + "(") ? 1 : 0, 1);
        }
    }

    private static List<?> answersOf(String code) throws Exception {
        Path folder = Files.createTempDirectory("readme");
        Path source = folder.resolve("Example.java");
        Files.write(source, code.getBytes(StandardCharsets.UTF_8));
        int answer = new ProcessBuilder("javac", "--release", "17", "-cp", System.getProperty("java.class.path"),
            "-d", folder.toString(), source.toString()).inheritIO().start().waitFor();
        Due.is("README's example compiles", answer, 0);
        List<?> answers = new ArrayList<>();
        if (answer == 0) {
            try (URLClassLoader loader = new URLClassLoader(new URL[] {folder.toUri().toURL()})) {
                answers = (List<?>) loader.loadClass("Example").getMethod("answers").invoke(null);
            }
        }
        for (File file : folder.toFile().listFiles()) {
            Files.delete(file.toPath());
        }
        Files.delete(folder);
        return answers;
    }

    /** The constructor and each call, with all that its promise says, under the document's headings and in its order. */
    private static void wholeFace() {
        int end = PAGE.indexOf("## Constructor\n");
        Due.is("there is a part for the constructor", end >= 0 ? 1 : 0, 1);
        List<String> rows = new ArrayList<>();
        for (int promise = 1; promise <= Doc.PROMISES; promise++) {
            String row = "\n- `" + Doc.face(promise) + "`: " + Doc.says(promise) + "\n";
            rows.add(row);
            int at = PAGE.indexOf(row);
            Due.is("README tells promise " + promise + " behind the one ahead of it", at >= end ? 1 : 0, 1);
            end = at;
        }
        Matcher m = Pattern.compile("Ahead of the calls `(\\w+)`[^\n]* the interface says: ---- ([^\n]*)\\.\n").matcher(Doc.whole());
        int headings = 0;
        while (m.find()) {
            headings++;
            String first = "### " + m.group(2) + "\n\n- `\\w+ " + m.group(1) + "\\(";
            Due.is("the heading " + m.group(2), Pattern.compile(first).matcher(PAGE).find() ? 1 : 0, 1);
        }
        Due.is("no other headings", count("(?m)^### "), headings);
        Due.is("no other rows", count("(?m)^- `[^`]*\\)`: "), rows.size());
    }

    private static void constants() {
        String[] names = {"NONE", "BAD", "STATE", "FULL", "NO"};
        long[] values = {MiddleSpeaks.NONE, MiddleSpeaks.BAD, MiddleSpeaks.STATE, MiddleSpeaks.FULL, MiddleSpeaks.NO};
        Matcher m = Pattern.compile("(?m)^\\| `(\\w+)` \\| (\\S+) \\| (.*?) ?\\|$").matcher(PAGE);
        for (int i = 0; i < names.length; i++) {
            boolean isThere = m.find() && m.group(1).equals(names[i]);
            Due.is("a row for " + names[i], isThere ? 1 : 0, 1);
            if (isThere) {
                boolean isLeast = m.group(2).equals("`Long.MIN_VALUE`");
                Due.is("its value", isLeast ? Long.MIN_VALUE : Long.parseLong(m.group(2)), values[i]);
                String said = isLeast ? "`NO = Long.MIN_VALUE`: " : names[i] + " (" + m.group(2) + ") ";
                Due.is("its words", Doc.hasWords((said + m.group(3)).trim()) ? 1 : 0, 1);
            }
        }
        Due.is("no others", m.find() ? 1 : 0, 0);
    }

    /** What stands behind > is the document's. */
    private static void words() {
        Matcher m = Pattern.compile("(?m)(^> .*\n)+").matcher(PAGE);
        int quotes = 0;
        while (m.find()) {
            quotes++;
            String words = m.group().replaceAll("(?m)^> ", "");
            Due.is("the document says: " + words, Doc.hasWords(words) ? 1 : 0, 1);
        }
        Due.is("there are some", quotes > 5 ? 1 : 0, 1);
        Due.is("nothing else stands behind >", count("(?m)^>(?! )"), 0);
    }

    /** What the commands name is there. */
    private static void commands() {
        Due.is(".ci/run can be run", new File(".ci/run").canExecute() ? 1 : 0, 1);
        Due.is("the page says so", count("(?m)^\\.ci/run$"), 1);
        Matcher m = Pattern.compile("(?m)^(?:javac|java) .*$").matcher(PAGE);
        int told = 0;
        while (m.find()) {
            told++;
            for (String part : m.group().split(" ")) {
                if (part.startsWith("src/")) {
                    Due.is(part + " is there", new File(part.replaceAll("\\*\\.java$", "")).exists() ? 1 : 0, 1);
                } else if (part.endsWith("Test")) {
                    Due.is(part + " is there", new File("src/test/java/" + part + ".java").exists() ? 1 : 0, 1);
                }
            }
        }
        Due.is("how many of them", told, 4);
    }

    /** All tests have a row, and each row's test is there; what it says of its promises is so. */
    private static void tests() throws IOException {
        int there = 0;
        try (Stream<Path> files = Files.list(Path.of("src/test/java"))) {
            for (Path file : (Iterable<Path>) files::iterator) {
                String name = file.getFileName().toString().replace(".java", "");
                if (name.endsWith("Test")) {
                    there++;
                    Due.is("a row for " + name, count("(?m)^- `" + name + "`: "), 1);
                }
            }
        }
        Due.is("no other rows", count("(?m)^- `\\w+Test`: "), there);
        Matcher m = Pattern.compile("(?m)^- `(\\w+)`: promises (\\d+) to (\\d+)").matcher(PAGE);
        int next = 1;
        while (m.find()) {
            String source = Doc.read("src/test/java/" + m.group(1) + ".java");
            Due.is(m.group(1) + " comes next", Integer.parseInt(m.group(2)), next);
            next = Integer.parseInt(m.group(3)) + 1;
            for (int promise = Integer.parseInt(m.group(2)); promise < next; promise++) {
                Due.is(m.group(1) + " stands for promise " + promise, source.contains("Due.promise(" + promise + ", ") ? 1 : 0, 1);
            }
        }
        Due.is("all promises", next, Doc.PROMISES + 1);
    }

    private static String found(String pattern) {
        Matcher m = Pattern.compile(pattern).matcher(PAGE);
        return m.find() ? m.group(1) : "";
    }

    private static int count(String what) {
        int n = 0;
        for (Matcher m = Pattern.compile(what).matcher(PAGE); m.find();) {
            n++;
        }
        return n;
    }
}
