import java.io.IOException;
import java.lang.reflect.Field;
import java.lang.reflect.Method;
import java.lang.reflect.Modifier;
import java.nio.file.Files;
import java.nio.file.Path;
import java.util.Arrays;
import java.util.Set;
import java.util.TreeSet;
import java.util.regex.Matcher;
import java.util.regex.Pattern;

/** The public face of the document, and those rules of LANGUAGE.md that a test can see. */
public final class FaceTest {
    private static final String[] FACE = {
        "boolean row 4", "boolean square 4", "int tower 3", "int see 3", "int hidden 3", "int sight 8",
        "int report 6", "int remark 1", "boolean clear 1", "int log 2", "int squares 2", "boolean join 2",
        "int begin 1", "boolean apart 1", "int office 0", "boolean out 1", "int fire 2", "int patch 2",
        "int fewest 2", "int next 1", "int crew 2", "boolean move 3", "int place 1", "int minutes 3",
        "int way 4", "int send 0", "int sent 1", "int blinds 0", "int blind 1", "int best 0",
        "boolean claim 2", "int check 0", "boolean undo 0", "int count 1"};

    private static int wrong;

    public static void main(String[] args) throws IOException {
        face();
        insides();
        String text = Files.readString(Path.of("src/main/java/SmokeWatch.java"));
        asTheDocumentWritesIt(Files.readString(Path.of("../shared/DOC.md")), text);
        source(text);
        System.out.println(wrong == 0 ? "the face and the rules hold" : wrong + " faults");
        System.exit(wrong == 0 ? 0 : 1);
    }

    private static void must(boolean holds, String what) {
        if (!holds) {
            wrong++;
            System.out.println("not so: " + what);
        }
    }

    private static boolean isPrivate(int modifiers) {
        return Modifier.isPrivate(modifiers);
    }

    private static void face() {
        Class<?> c = SmokeWatch.class;
        must(Modifier.isPublic(c.getModifiers()) && Modifier.isFinal(c.getModifiers()), "public and final");
        Set<String> found = new TreeSet<>();
        for (Method m : c.getDeclaredMethods()) {
            must(Modifier.isPublic(m.getModifiers()) || isPrivate(m.getModifiers()), m + " is public or private");
            if (Modifier.isPublic(m.getModifiers())) {
                found.add(m.getReturnType() + " " + m.getName() + " " + m.getParameterCount());
                must(Arrays.stream(m.getParameterTypes()).allMatch(t -> t == int.class), m + " takes ints");
                must(!Modifier.isStatic(m.getModifiers()), m + " is of the object");
            }
        }
        must(found.equals(new TreeSet<>(Arrays.asList(FACE))), "the methods are those of the document");
        must(c.getDeclaredConstructors().length == 1 && c.getConstructors().length == 1, "one constructor");
        for (Field f : c.getDeclaredFields()) {
            must(isPrivate(f.getModifiers()) || f.getName().equals("NONE"), f + " is private");
        }
    }

    /** Every line of the document's face stands in the source, the names of the parameters too. */
    private static void asTheDocumentWritesIt(String document, String text) {
        int lines = 0;
        Matcher line = Pattern.compile("(?m)^    (public .*);$").matcher(document);
        while (line.find()) {
            String told = line.group(1);
            must(text.contains("\n    " + told + (told.contains("=") ? ";" : " {") + "\n"), told);
            lines++;
        }
        must(lines == FACE.length + 2, "the document's face has a constant, a constructor and these methods");
    }

    /** The names of the calls of the face. */
    static Set<String> names() {
        Set<String> names = new TreeSet<>();
        for (String m : FACE) {
            names.add(m.split(" ")[1]);
        }
        return names;
    }

    private static void insides() {
        Set<String> names = names();
        Class<?>[] all = SmokeWatch.class.getDeclaredClasses();
        must(all.length <= 12, "at most some twelve classes");
        for (Class<?> c : all) {
            must(Modifier.isStatic(c.getModifiers()), c + " is static");
            must(!Modifier.isPublic(c.getModifiers()) && !Modifier.isProtected(c.getModifiers()), c + " is within");
            must(c.getDeclaredFields().length <= 20, c + " has some twenty fields");
            for (Method m : c.getDeclaredMethods()) {
                must(!names.contains(m.getName()), m + " bears no name of the face");
                must(m.getParameterCount() <= 7, m + " takes at most seven");
            }
        }
        for (Method m : SmokeWatch.class.getDeclaredMethods()) {
            must(!isPrivate(m.getModifiers()) || !names.contains(m.getName()), m + " bears no name of the face");
            must(m.getParameterCount() <= 7 || m.getName().equals("sight"), m + " takes at most seven");
        }
    }

    private static void source(String text) {
        must(text.chars().allMatch(ch -> ch == '\n' || ch >= 32 && ch < 127), "plain signs alone");
        String code = text.replaceAll("(?s)/\\*.*?\\*/", "").replaceAll("//[^\n]*", "");
        String[] never = {"->", "::", "\\bthrow\\b", "\\btry\\b", "\\bcatch\\b", "\\bfinally\\b", "\\bassert\\b",
            "\\bsynchronized\\b", "\\bnative\\b", "\\binstanceof\\b", "\\bdouble\\b", "\\bString\\b", "Exact\\b",
            "\\bFloat\\b", "\\bSystem\\b", "\\bRandom\\b", "\\bpackage\\b", "\"", "while\\b"};
        for (String word : never) {
            must(!Pattern.compile(word).matcher(code).find(), "no " + word);
        }
        Matcher imports = Pattern.compile("import ([^;]*);").matcher(code);
        while (imports.find()) {
            must(imports.group(1).equals("java.util.Arrays"), "no import of " + imports.group(1));
        }
        Matcher library = Pattern.compile("\\b(Math|Integer|Long|Arrays)\\.(\\w+)").matcher(code);
        Set<String> listed = Set.of("max", "min", "abs", "bitCount", "fill");
        while (library.find()) {
            must(listed.contains(library.group(2)), "no " + library.group());
        }
        methodsAreShort(text.split("\n"));
    }

    /** A method's closing brace stands under its first letter. */
    private static void methodsAreShort(String[] lines) {
        Pattern head = Pattern.compile("( {4}| {8})(public |private |static |[A-Z]?[a-z]+[A-Za-z]* ).*\\) \\{");
        for (int n = 0; n < lines.length; n++) {
            Matcher m = head.matcher(lines[n]);
            if (m.matches() && !lines[n].trim().startsWith("if ") && !lines[n].trim().startsWith("for ")) {
                int end = n;
                while (end < lines.length && !lines[end].equals(m.group(1) + "}")) {
                    end++;
                }
                must(end - n < 60, "short: " + lines[n]);
            }
        }
    }
}
