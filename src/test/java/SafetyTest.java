import java.lang.reflect.Method;
import java.lang.reflect.Modifier;
import java.util.ArrayList;
import java.util.Comparator;
import java.util.List;
import java.util.Random;

/** No call throws, for any arguments in any state; the same calls always give the same answers. */
public final class SafetyTest {
    private static final int[] EDGES = {Integer.MIN_VALUE, -1000, -3, -2, -1, 0, 1, 2, 3, 4, 5, 6, 7, 9, 10, 13, 14, 15, 20, 25, 29, 30, 31,
        44, 47, 48, 57, 58, 599, 600, 601, Integer.MAX_VALUE};
    private static final String[] WORDS = {"rate", "fresh", "sticky", "belief", "bench", "painted", "card", "maybe", "pigeon", "comer", "touch",
        "print", "sheep", "best", "deep", "faint", "dust", "alarm", "halves", ";", ";", ";", " ", "\n", "0", "1", "5", "9", "47", "48", "60", "999",
        "1000", "?", "\u00ff", "\u0000", "x"};
    private static final String[] LINES = {"rate 3 9 0;", "fresh 30;", "sticky 3;", "belief 60;", "bench 5;", "bench 9;", "painted 0 3;",
        "painted 1 47;", "card 0 3 20;", "maybe 0 4 3;", "maybe 1 9 9;", "pigeon 0 5;", "comer card 5 0 3 4 5;", "comer touch 9 1 3 4 5;",
        "comer print 6 0 9 9 9;", "comer sheep 8 0 1 2 3;", "comer best 47 1 9 1 1;"};
    private static final String[] OTHERS = {"deep 0 4;", "faint 1 9;", "dust 0 40;", "alarm 1 5 9 3;", "alarm 4 5 9 3;", "halves 0 3 9;", "halves 1 0 47;"};

    private static final Check check = new Check();

    public static void main(String[] args) throws Exception {
        List<Method> face = new ArrayList<>();
        for (Method method : WetPaint.class.getDeclaredMethods()) {
            if (Modifier.isPublic(method.getModifiers())) {
                face.add(method);
            }
        }
        face.sort(Comparator.comparing(Method::getName));
        for (int run = 0; run < 1500; run++) {
            List<Object> first = calls(face, run);
            if (run % 10 == 0) {
                check.due("run " + run + " told twice", first.equals(calls(face, run)), true);
            }
        }
        check.end("SafetyTest");
    }

    private static List<Object> calls(List<Method> face, int run) throws Exception {
        Random random = new Random(run);
        WetPaint x = new WetPaint();
        List<Object> answers = new ArrayList<>();
        for (int i = 0; i < 256; i++) {
            if (random.nextInt(12) == 0) {
                tell(x, random);
            }
            Method method = face.get(random.nextInt(face.size()));
            Object[] arguments = new Object[method.getParameterCount()];
            for (int j = 0; j < arguments.length; j++) {
                boolean isInt = method.getParameterTypes()[j] == int.class;
                arguments[j] = isInt ? (Object) number(random) : (Object) random.nextBoolean();
            }
            answers.add(method.invoke(x, arguments));
        }
        return answers;
    }

    private static int number(Random random) {
        int kind = random.nextInt(8);
        if (kind == 0) {
            return random.nextInt();
        }
        return kind < 5 ? random.nextInt(3) - 1 : EDGES[random.nextInt(EDGES.length)];
    }

    private static void tell(WetPaint x, Random random) {
        StringBuilder text = new StringBuilder();
        int sort = random.nextInt(4);
        String[] from = random.nextInt(4) == 0 ? WORDS : sort == 0 ? LINES : OTHERS;
        if (sort == 0 && from == LINES) {
            text.append("bench 3;bench 4;");
        }
        for (int i = random.nextInt(20); i > 0 && text.length() < 570; i--) {
            String next = from[random.nextInt(from.length)];
            boolean fits = from != OTHERS || sort == 1 == next.startsWith("d") || next.startsWith("f");
            text.append(fits || random.nextInt(9) == 0 ? next : "");
        }
        x.end(0);
        Check.feed(x, text.toString(), 0);
        x.text(sort, random.nextInt(3) - 1);
    }
}
