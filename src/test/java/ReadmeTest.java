import java.lang.reflect.Method;
import java.nio.file.Files;
import java.nio.file.Path;
import java.util.ArrayList;
import java.util.List;
import java.util.regex.Matcher;
import java.util.regex.Pattern;

/** Each call that README.md shows, with the answer that it tells behind //. */
public final class ReadmeTest {
    private static final Check check = new Check();
    private static final Pattern CALL = Pattern.compile("x\\.(\\w+)\\((.*?)\\); +// (-?\\d+)\\b.*");
    private static final Pattern TELL = Pattern.compile("tell\\(x, (\\d), (-?\\d), \"(.*?)\"\\); +// (-?\\d+)\\b.*");

    public static void main(String[] args) throws Exception {
        WetPaint x = null;
        int calls = 0;
        for (String line : Files.readAllLines(Path.of("README.md"))) {
            Matcher call = CALL.matcher(line);
            Matcher tell = TELL.matcher(line);
            if (line.equals("WetPaint x = new WetPaint();")) {
                x = new WetPaint();
            } else if (call.matches()) {
                check.due(line, ask(x, call.group(1), call.group(2)), Integer.parseInt(call.group(3)));
                calls++;
            } else if (tell.matches()) {
                int got = tell(x, Integer.parseInt(tell.group(1)), Integer.parseInt(tell.group(2)), tell.group(3));
                check.due(line, got, Integer.parseInt(tell.group(4)));
                calls++;
            } else {
                check.due("a call without an answer: " + line, line.startsWith("x.") || line.startsWith("tell("), false);
            }
        }
        check.due("calls in README.md", calls > 20, true);
        namesAll();
        hasTell();
        check.end("ReadmeTest");
    }

    private static int ask(WetPaint x, String name, String arguments) throws Exception {
        List<Object> values = new ArrayList<>();
        for (String argument : arguments.split(", ")) {
            boolean truth = argument.equals("true") || argument.equals("false");
            String number = argument.replace("WetPaint.NONE", "-1");
            values.add(truth ? (Object) Boolean.valueOf(argument) : (Object) Integer.decode(number));
        }
        for (Method method : WetPaint.class.getMethods()) {
            if (method.getName().equals(name)) {
                return (Integer) method.invoke(x, values.toArray());
            }
        }
        throw new IllegalStateException("no call " + name);
    }

    static int tell(WetPaint x, int sort, int at, String text) {
        for (int i = 0; i < text.length(); i += 20) {
            int[] n = new int[5];
            for (int j = 0; j < 20; j++) {
                n[j / 4] = n[j / 4] << 8 | (i + j < text.length() ? text.charAt(i + j) : ' ');
            }
            x.feed(n[0], n[1], n[2], n[3], n[4]);
        }
        return x.text(sort, at);
    }

    /** The tell() of README.md is the one that is asked here. */
    private static void hasTell() throws Exception {
        String source = Files.readString(Path.of("src/test/java/ReadmeTest.java"));
        String own = source.substring(source.indexOf("    static int tell("), source.indexOf("    /** The tell() of"));
        String readme = Files.readString(Path.of("README.md"));
        check.due("README.md has tell()", readme.contains(own.replaceAll("(?m)^    ", "").trim()), true);
    }

    /** README.md names each call of the face. */
    private static void namesAll() throws Exception {
        String readme = Files.readString(Path.of("README.md"));
        for (Method method : WetPaint.class.getMethods()) {
            if (method.getDeclaringClass() == WetPaint.class) {
                check.due("README.md names " + method.getName(), readme.contains("`" + method.getName() + "`"), true);
            }
        }
    }
}
