import java.lang.reflect.Constructor;
import java.lang.reflect.Field;
import java.lang.reflect.Method;
import java.lang.reflect.Modifier;
import java.nio.file.Files;
import java.nio.file.Path;
import java.util.Arrays;
import java.util.Set;
import java.util.TreeSet;
import java.util.regex.Matcher;
import java.util.regex.Pattern;

/** The rules of LANGUAGE.md that can be seen from the source and from the class: the face, words that may not stand. */
public final class LanguageTest {
    private static final Check check = new Check();
    private static final String FACE = "act/6 again/1 alarm/3 anew/3 bench/3 card/3 count/1 day/2 days/3 did/3 drawn/4 end/1 fault/1 feed/5 "
        + "halves/4 hang/3 image/1 likely/6 order/3 otherwise/3 park/2 plan/3 read/4 rule/2 sight/3 spare/2 text/2 told/4 wet/4";

    public static void main(String[] args) throws Exception {
        face();
        faceOfDocument();
        classesInside();
        words();
        check.end("LanguageTest");
    }

    private static void face() {
        Set<String> seen = new TreeSet<>();
        Set<String> names = new TreeSet<>();
        for (Method method : WetPaint.class.getDeclaredMethods()) {
            if (Modifier.isPublic(method.getModifiers())) {
                seen.add(method.getName() + "/" + method.getParameterCount());
                names.add(method.getName());
            }
        }
        check.due("face is " + seen, seen.equals(new TreeSet<>(Arrays.asList(FACE.split(" ")))), true);
        for (Method method : WetPaint.class.getDeclaredMethods()) {
            boolean isPublic = Modifier.isPublic(method.getModifiers());
            check.due(method + " is public or private", isPublic || Modifier.isPrivate(method.getModifiers()), true);
            check.due(method + " bears a name of its own", isPublic || !names.contains(method.getName()), true);
        }
        for (Class<?> inside : WetPaint.class.getDeclaredClasses()) {
            for (Method method : inside.getDeclaredMethods()) {
                check.due(method + " bears a name of its own", !names.contains(method.getName()), true);
                check.due(method + " has seven parameters at most", method.getParameterCount() <= 7, true);
            }
        }
        for (Field field : WetPaint.class.getDeclaredFields()) {
            boolean isFace = field.getName().equals("NONE") && Modifier.isPublic(field.getModifiers());
            check.due(field + " is private", isFace || Modifier.isPrivate(field.getModifiers()), true);
        }
        Constructor<?>[] constructors = WetPaint.class.getDeclaredConstructors();
        check.due("constructors", constructors.length, 1);
        check.due("the class is public and final", WetPaint.class.getModifiers(), Modifier.PUBLIC | Modifier.FINAL);
    }

    /** Each line of the document's face stands in the source as it is told there. */
    private static void faceOfDocument() throws Exception {
        String source = Files.readString(Path.of("src/main/java/WetPaint.java"));
        String document = Files.readString(Path.of("../shared/DOC.md"));
        String part = document.substring(document.indexOf("## The public face"), document.indexOf("## Terms"));
        int lines = 0;
        for (String line : part.split("\n")) {
            if (line.startsWith("    public ")) {
                lines++;
                check.due("the source has" + line, source.contains("\n" + line.replaceAll("\\);$", ") {") + "\n"), true);
            }
        }
        check.due("lines of the face", lines, 31);
    }

    private static void classesInside() {
        Class<?>[] inside = WetPaint.class.getDeclaredClasses();
        check.due("some twelve classes", inside.length < 12, true);
        for (Class<?> one : inside) {
            check.due(one + " is static", Modifier.isStatic(one.getModifiers()), true);
            int fields = 0;
            for (Field field : one.getDeclaredFields()) {
                boolean isStatic = Modifier.isStatic(field.getModifiers());
                fields += isStatic ? 0 : 1;
                check.due(field + " is final if static", !isStatic || Modifier.isFinal(field.getModifiers()), true);
            }
            check.due(one + " has some twenty fields", fields <= 20, true);
        }
    }

    private static void words() throws Exception {
        String source = Files.readString(Path.of("src/main/java/WetPaint.java"));
        for (char c : source.toCharArray()) {
            check.due("sign " + (int) c, c == 10 || c >= 32 && c < 127, true);
        }
        String code = source.replaceAll("(?s)/\\*.*?\\*/", "").replaceAll("//[^\n]*", "").replaceAll("\"[^\"\n]*\"", "\"\"");
        String[] words = {"throw", "throws", "try", "catch", "synchronized", "assert", "package", "var", "Object", "System\\.out", "Random",
            "Thread", "nanoTime", "currentTimeMillis", "[a-zA-Z]*Exact", "Iterator", "yield"};
        for (String word : words) {
            check.due("the word " + word + " stands", Pattern.compile("\\b" + word + "\\b").matcher(code).find(), false);
        }
        check.due("a lambda stands", code.contains("->"), false);
        check.due("a method reference stands", code.contains("::"), false);
        Matcher imports = Pattern.compile("import ([\\w.*]+);").matcher(code);
        while (imports.find()) {
            check.due("import " + imports.group(1), imports.group(1).equals("java.util.Arrays"), true);
        }
        methodLengths(code);
    }

    private static void methodLengths(String code) {
        int length = 0;
        String name = "";
        for (String line : code.split("\n")) {
            length++;
            if (line.matches(" {4,8}[\\w\\[\\]. ]+\\([^;]*\\) \\{")) {
                length = 0;
                name = line.trim();
            }
            if (line.matches(" {4,8}\\}")) {
                check.due(name + " has " + length + " lines", name.isEmpty() || length <= 60, true);
                name = "";
            }
        }
    }
}
