import java.util.ArrayList;
import java.util.List;
import java.util.Random;

/** Texts drawn for a sort: most of them right, others with a NUMBER, a token or a byte that can't be. */
final class DrawnText {
    private static final String[][] LINES = {
        {"rate h u d", "fresh f", "sticky d", "belief p", "bench n", "bench n", "bench n", "painted b h", "painted b h", "card b h u", "card b h u",
            "maybe b h n", "maybe b h n", "pigeon b h", "pigeon b h", "comer w h b d d d", "comer w h b d d d", "comer w h b d d d"},
        {"deep b h", "faint b h", "dust b h"}, {"alarm t o l l"}, {"halves b h h"}};
    private static final String[] HABITS = {"card", "touch", "print", "sheep", "best"};
    private static final String[] WRONG = {"#", "\u00e9", "\u0000", "\t", "\r", "`", "{", "/", ":", "A", "Z", ";", "x", "0", "1234", " ", "\n"};

    private DrawnText() {
    }

    static String of(Random random, int sort) {
        List<String> lines = new ArrayList<>();
        int wide = 1 + random.nextInt(6);
        int count = random.nextInt(sort == 0 ? 24 : 11);
        for (int b = 0; sort == 0 && b < wide - (random.nextInt(12) == 0 ? 1 : 0); b++) {
            lines.add("bench " + (1 + random.nextInt(9)));
        }
        for (int i = 0; i < count; i++) {
            String line = LINES[sort][random.nextInt(LINES[sort].length)];
            boolean bench = line.startsWith("bench");
            // A line goes on oftener than not with its like, so that there are too many now and then.
            for (int again = random.nextInt(60) == 0 ? 8 : 1; again > 0; again--) {
                int at = bench ? lines.size() : random.nextInt(lines.size() + 1);
                if (!bench || random.nextInt(8) == 0) {
                    lines.add(at, line(random, line, wide));
                }
            }
        }
        StringBuilder text = new StringBuilder();
        for (String line : lines) {
            if (text.length() + line.length() < 595) {
                text.append(line).append(random.nextInt(9) == 0 ? " ;\n" : ";");
            }
        }
        if (random.nextInt(5) == 0) {
            spoil(random, text);
        }
        return text.toString();
    }

    private static String line(Random random, String line, int wide) {
        StringBuilder text = new StringBuilder();
        int ahead = 0;
        boolean wrong = random.nextInt(80) == 0;
        for (String kind : line.split(" ")) {
            if (kind.length() > 1) {
                text.append(kind);
            } else if (kind.equals("w")) {
                text.append(' ').append(HABITS[random.nextInt(5)]);
            } else {
                ahead = number(random, kind.charAt(0), ahead, wide, wrong);
                text.append(random.nextInt(9) == 0 ? "\n " : " ").append(random.nextInt(15) == 0 && ahead < 100 ? "0" : "").append(ahead);
            }
        }
        return text.toString();
    }

    private static int number(Random random, char kind, int ahead, int wide, boolean wrong) {
        int least = kind == 'f' || kind == 'n' ? 1 : 0;
        int most = "hu".indexOf(kind) >= 0 ? 47 : kind == 'f' ? 60 : kind == 'p' ? 100 : "to".indexOf(kind) >= 0 ? 20 : kind == 'l' ? 99 : 9;
        if (wrong && random.nextInt(3) > 0) {
            return random.nextBoolean() ? most + 1 : random.nextInt(3) == 0 ? 0 : Math.max(0, ahead - 1);
        }
        if (kind == 'b') {
            return wrong ? 6 : random.nextInt(wide);
        }
        if (kind == 'u' || kind == 'o') {
            least = Math.min(most, Math.max(kind == 'o' ? 1 : 0, ahead));
        }
        return least + random.nextInt(most - least + 1);
    }

    private static void spoil(Random random, StringBuilder text) {
        int at = random.nextInt(text.length() + 1);
        String wrong = WRONG[random.nextInt(WRONG.length)];
        switch (random.nextInt(4)) {
            case 0: text.setLength(at); break;
            case 1: text.insert(at, text.length() + wrong.length() > 600 ? "" : wrong); break;
            case 2: text.replace(at, Math.min(at + 1, text.length()), at < text.length() ? wrong.substring(0, 1) : ""); break;
            default: text.delete(at, Math.min(at + 1, text.length())); break;
        }
    }
}
