import java.util.ArrayList;
import java.util.Arrays;
import java.util.HashMap;
import java.util.List;
import java.util.Map;
import java.util.regex.Matcher;
import java.util.regex.Pattern;

/** A second, plain reading of one text: by a table of lines, token by token; its FAULT, or what it tells. */
final class PlainText {
    private static final int NONE = WetPaint.NONE;
    private static final List<String> HABITS = List.of("card", "touch", "print", "sheep", "best");
    // Of each line the least and the most of each NUMBER; + is one not below the one ahead of it, H a HABIT.
    private static final String[] LINES = {
        "rate 0-47 0-47+ 0-9;fresh 1-60;sticky 0-60;belief 0-100;bench 1-9;painted 0-5 0-47;card 0-5 0-47 0-47+;maybe 0-5 0-47 1-9;"
            + "pigeon 0-5 0-47;comer H 0-47 0-5 0-9 0-9 0-9",
        "deep 0-5 0-47;faint 0-5 0-47;dust 0-5 0-47", "alarm 0-20 1-20+ 0-99 0-99", "halves 0-5 0-47 0-47"};
    private static final Map<String, Integer> MOST = Map.of("bench", 6, "maybe", 8, "pigeon", 4, "comer", 14, "print", 10, "alarm", 8, "halves", 6);

    int fault = 0;
    int place = NONE;
    /** PRINTS, ALARMS or HALVES, as sight(), alarm() and plan() have them. */
    final List<int[]> rows = new ArrayList<>();

    private final List<String> tokens = new ArrayList<>();
    private final List<Integer> places = new ArrayList<>();
    private final Map<String, List<int[]>> told = new HashMap<>();

    PlainText(int sort, String text) {
        Matcher token = Pattern.compile("[a-z]+|[0-9]+|[^ \n]", Pattern.DOTALL).matcher(text);
        while (token.find()) {
            tokens.add(token.group());
            places.add(token.start());
        }
        tokens.add("");
        places.add(text.length());
        int at = 0;
        while (at < tokens.size() - 1 && fault != 1) {
            at = line(sort, at);
        }
        if (fault == 0 && sort == 0) {
            atEnd(text.length());
        }
    }

    /** Reads the line that begins with a token: the token behind it. */
    private int line(int sort, int first) {
        String shape = null;
        for (String line : LINES[sort].split(";")) {
            shape = line.split(" ")[0].equals(tokens.get(first)) ? line : shape;
        }
        if (shape == null) {
            return stop(first);
        }
        String[] kinds = shape.split(" ");
        int[] n = new int[kinds.length];
        String name = kinds[0].matches("deep|faint|dust") ? "print" : kinds[0];
        if (all(name).size() >= MOST.getOrDefault(name, 1000)) {
            note(3, first);
        }
        for (int i = 1; i < kinds.length; i++) {
            String word = tokens.get(first + i);
            boolean habit = kinds[i].equals("H");
            if (habit ? !HABITS.contains(word) : !word.matches("[0-9]{1,3}")) {
                return stop(first + i);
            }
            n[i] = habit ? HABITS.indexOf(word) : Integer.parseInt(word);
            if (!habit && !canBe(kinds[i], n[i], n[i - 1])) {
                note(2, first + i);
            }
        }
        if (!tokens.get(first + kinds.length).equals(";")) {
            return stop(first + kinds.length);
        }
        told.computeIfAbsent(name, any -> new ArrayList<>()).add(n);
        if (sort > 0) {
            n[0] = List.of("dust", "faint", "deep").indexOf(kinds[0]);
            rows.add(Arrays.copyOfRange(n, sort == 1 ? 0 : 1, n.length));
        }
        return first + kinds.length + 1;
    }

    private static boolean canBe(String kind, int n, int ahead) {
        String[] ends = kind.replace("+", "").split("-");
        return n >= Integer.parseInt(ends[0]) && n <= Integer.parseInt(ends[1]) && (!kind.endsWith("+") || n >= ahead);
    }

    private int stop(int token) {
        fault = 1;
        place = places.get(token);
        return tokens.size();
    }

    private void note(int which, int token) {
        if (fault == 0) {
            fault = which;
            place = places.get(token);
        }
    }

    private void atEnd(int length) {
        int benches = all("bench").size();
        for (String name : new String[] {"painted", "card", "maybe", "pigeon", "comer"}) {
            for (int[] n : all(name)) {
                boolean there = n[name.equals("comer") ? 3 : 1] < benches;
                fault = there ? fault : 4;
            }
        }
        if (fault == 0 && number("sticky", 8) > number("fresh", 20)) {
            fault = 5;
        }
        place = fault == 0 ? NONE : length;
    }

    private List<int[]> all(String name) {
        return told.getOrDefault(name, List.of());
    }

    private int number(String name, int first) {
        int number = first;
        for (int[] n : all(name)) {
            number = n[1];
        }
        return number;
    }

    int park(int what) {
        if (what < 0 || what > 57 || what > 6 && what < 10) {
            return NONE;
        }
        int[] numbers = {number("fresh", 20), number("sticky", 8), number("belief", 0), all("bench").size(), all("maybe").size(),
            all("pigeon").size(), all("comer").size()};
        int rate = 2;
        for (int[] n : all("rate")) {
            rate = what - 10 >= n[1] && what - 10 <= n[2] ? n[3] : rate;
        }
        return what < 7 ? numbers[what] : rate;
    }

    int bench(int bench, int what) {
        if (bench < 0 || bench >= all("bench").size() || what < 0 || what > 3) {
            return -2;
        }
        int[] numbers = {all("bench").get(bench)[1], NONE, NONE, NONE};
        for (int[] n : all("painted")) {
            numbers[1] = n[1] == bench ? n[2] : numbers[1];
        }
        for (int[] n : all("card")) {
            numbers[2] = n[1] == bench ? n[2] : numbers[2];
            numbers[3] = n[1] == bench ? n[3] : numbers[3];
        }
        return numbers[what];
    }

    int told(int sort, int k, int what) {
        String[] names = {"maybe", "pigeon", "comer"};
        List<int[]> rows = sort < 0 || sort > 2 ? List.of() : all(names[sort]);
        return k < 0 || k >= rows.size() || what < 0 || what + 1 >= rows.get(k).length ? NONE : rows.get(k)[what + 1];
    }
}
