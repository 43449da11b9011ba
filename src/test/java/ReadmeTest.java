import java.io.IOException;
import java.net.URL;
import java.net.URLClassLoader;
import java.nio.file.Files;
import java.nio.file.Path;
import java.util.ArrayList;
import java.util.List;
import java.util.regex.Matcher;
import java.util.regex.Pattern;
import java.util.stream.Stream;

/**
 * What README.md shows is so. Its examples are taken from the page itself, compiled and run, every call held
 * against the answer that stands behind it, so that page and test can't part.
 */
public final class ReadmeTest {
    private static final String NAME = "ReadmeExample";
    private static final Pattern BLOCK = Pattern.compile("(?ms)^```java\n(.*?)^```$");
    private static final Pattern CALL = Pattern.compile("^\\s*(?:int (\\w+) = )?(w\\.(\\w+)\\(.*\\));(.*)$");
    private static final Pattern ANSWER = Pattern.compile("^\\s+// (-?\\d+|true|false|NONE)(?:: .*)?$");

    private static int wrong;
    private static int calls;

    public static void main(String[] args) throws Exception {
        String page = Files.readString(Path.of("README.md"));
        List<String> lines = examples(page);
        Path dir = Files.createTempDirectory("readme");
        try {
            runExamples(dir, source(lines));
        } finally {
            delete(dir);
        }
        namesAllCalls(page, lines);
        namesAllTests(page);
        System.out.println(wrong == 0 ? calls + " calls of README.md are so" : wrong + " faults");
        System.exit(wrong == 0 ? 0 : 1);
    }

    private static void must(boolean holds, String what) {
        if (!holds) {
            wrong++;
            System.out.println("README.md: not so: " + what);
        }
    }

    /** The lines that are compiled from the page call this. */
    public static void due(String line, Object got, Object due) {
        calls++;
        must(got.equals(due), line + " answered " + got);
    }

    private static List<String> examples(String page) {
        List<String> lines = new ArrayList<>();
        Matcher block = BLOCK.matcher(page);
        while (block.find()) {
            lines.addAll(block.group(1).lines().toList());
        }
        must(!lines.isEmpty(), "there are examples");
        return lines;
    }

    /** All blocks are one run on one object, as the page says. */
    private static String source(List<String> lines) {
        StringBuilder text = new StringBuilder("public final class " + NAME + " {\n  public static void main(String[] args) {\n");
        for (String line : lines) {
            text.append(checked(line)).append('\n');
        }
        return text.append("  }\n}\n").toString();
    }

    private static String checked(String line) {
        Matcher call = CALL.matcher(line);
        if (!call.matches()) {
            must(!line.contains("w."), "each call stands in a line of its own: " + line);
            return line;
        }
        Matcher answer = ANSWER.matcher(call.group(4));
        if (!answer.matches()) {
            must(false, "behind each call stands its answer: " + line);
            return line;
        }
        String due = answer.group(1).equals("NONE") ? "SmokeWatch.NONE" : answer.group(1);
        String got = call.group(1) == null ? call.group(2) : call.group(1);
        String declared = call.group(1) == null ? "" : "int " + got + " = " + call.group(2) + ";";
        return declared + " ReadmeTest.due(\"" + call.group(2) + "\", " + got + ", " + due + ");";
    }

    private static void runExamples(Path dir, String source) throws Exception {
        Path file = dir.resolve(NAME + ".java");
        Files.writeString(file, source);
        String path = System.getProperty("java.class.path");
        Process javac = new ProcessBuilder("javac", "-cp", path, "-d", dir.toString(), file.toString()).inheritIO().start();
        if (javac.waitFor() != 0) {
            must(false, "the examples compile");
            return;
        }
        try (URLClassLoader loader = new URLClassLoader(new URL[] {dir.toUri().toURL()})) {
            Class<?> example = loader.loadClass(NAME);
            example.getMethod("main", String[].class).invoke(null, (Object) new String[0]);
        }
        must(calls > 0, "the examples call the class");
        must(calls <= Watch.CALLS, "the examples stay within the calls that an object is good for");
    }

    /** Every call of the face stands in an example and in the list of all calls. */
    private static void namesAllCalls(String page, List<String> lines) {
        String list = page.substring(page.indexOf("### All calls"));
        for (String name : FaceTest.names()) {
            must(lines.stream().anyMatch(line -> line.contains("w." + name + "(")), "an example calls " + name);
            must(list.contains("`" + name + "`"), "the list has " + name);
        }
    }

    private static void namesAllTests(String page) throws IOException {
        try (Stream<Path> files = Files.list(Path.of("src/test/java"))) {
            files.map(file -> file.getFileName().toString()).filter(name -> name.endsWith("Test.java"))
                    .forEach(name -> must(page.contains("`src/test/java/" + name + "`"), "it names " + name));
        }
    }

    private static void delete(Path dir) throws IOException {
        try (Stream<Path> files = Files.list(dir)) {
            for (Path file : files.toList()) {
                Files.delete(file);
            }
        }
        Files.delete(dir);
    }
}
