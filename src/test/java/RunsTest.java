import java.util.ArrayList;
import java.util.Arrays;
import java.util.Collections;
import java.util.List;
import java.util.Random;

/**
 * Drawn runs of calls on one object: the tape, texts with all FAULTS, places, images. All that is told is held against a
 * PlainText, a second reading of the texts; what comes of it against a new object that was told of that alone.
 */
public final class RunsTest {
    private static final int NONE = WetPaint.NONE;
    private static final int CALLS = 512;
    private static final Check check = new Check();

    /** All that is told, as plain as it goes: each sort a row of the texts that were taken. */
    private static final class State {
        String tape = "";
        int fault = 0;
        int place = NONE;
        List<List<String>> texts = new ArrayList<>();

        State() {
            for (int sort = 0; sort < 4; sort++) {
                texts.add(new ArrayList<>());
            }
        }

        State copy() {
            State s = new State();
            s.tape = tape;
            s.fault = fault;
            s.place = place;
            for (int sort = 0; sort < 4; sort++) {
                s.texts.get(sort).addAll(texts.get(sort));
            }
            return s;
        }

        int take(int sort, int at) {
            String taken = tape;
            tape = "";
            fault = 0;
            place = NONE;
            if (sort < 0 || sort > 3) {
                return -2;
            }
            List<String> there = texts.get(sort);
            if (at == NONE ? there.size() == 2 : at < 0 || at >= there.size()) {
                return -2;
            }
            PlainText read = new PlainText(sort, taken);
            if (read.fault != 0) {
                fault = read.fault;
                place = read.place;
                return NONE;
            }
            if (at != NONE) {
                there.set(at, taken);
                return at;
            }
            there.add(taken);
            return there.size() - 1;
        }
    }

    private final Random random;
    private final WetPaint x = new WetPaint();
    private final State[] images = new State[3];
    private State now = new State();
    private int calls = 0;

    private RunsTest(int seed) {
        random = new Random(seed);
    }

    private void due(String call, int got, int want) {
        calls++;
        check.due(call, got, want);
    }

    private void feed(String twenty) {
        int[] n = new int[5];
        for (int i = 0; i < 20; i++) {
            n[i / 4] = n[i / 4] << 8 | twenty.charAt(i);
        }
        boolean fits = now.tape.length() + 20 <= 600;
        now.tape += fits ? twenty : "";
        due("feed of " + twenty, x.feed(n[0], n[1], n[2], n[3], n[4]), fits ? now.tape.length() : NONE);
    }

    private void end(int n) {
        boolean has = n >= 0 && n <= now.tape.length();
        now.tape = has ? now.tape.substring(0, n) : now.tape;
        due("end of " + n, x.end(n), has ? n : NONE);
    }

    private void tell(int sort, String text) {
        int length = now.tape.length() + text.length();
        for (int i = 0; i < text.length(); i += 20) {
            String part = text.substring(i, Math.min(i + 20, text.length()));
            feed(part + ";".repeat(20 - part.length()));
        }
        end(Math.min(length, now.tape.length()));
        int at = random.nextInt(5) == 0 ? random.nextInt(6) - 3 : now.texts.get(Math.max(0, Math.min(sort, 3))).isEmpty() ? NONE : random.nextInt(3) - 1;
        String tape = now.tape;
        due("text(" + sort + ", " + at + ") of " + tape, x.text(sort, at), now.take(sort, at));
        askFault(tape);
    }

    private void askFault(String tape) {
        due("fault of " + tape, x.fault(0), now.fault);
        due("place in " + tape, x.fault(1), now.place);
    }

    private void image() {
        int k = random.nextInt(5) - 1;
        boolean there = k >= 0 && k < 3;
        if (random.nextBoolean()) {
            due("image " + k, x.image(k) ? 1 : 0, there ? 1 : 0);
            if (there) {
                images[k] = now.copy();
            }
            return;
        }
        there = there && images[k] != null;
        due("again " + k, x.again(k) ? 1 : 0, there ? 1 : 0);
        if (there) {
            now = images[k].copy();
        }
        askFault("image " + k);
    }

    /** Some of what is told, drawn, and of what is not there. */
    private void askTold() {
        int i = random.nextInt(2);
        int k = random.nextInt(16) - 1;
        int what = random.nextInt(8) - 1;
        int sort = random.nextInt(5) - 1;
        due("count " + sort, x.count(sort), sort < 0 ? -2 : now.texts.get(sort).size());
        PlainText p = i < now.texts.get(0).size() ? new PlainText(0, now.texts.get(0).get(i)) : null;
        int wide = random.nextInt(3) == 0 ? 9 + random.nextInt(50) : what;
        due("park " + i + " " + wide, x.park(i, wide), p == null ? NONE : p.park(wide));
        due("bench " + i + " " + k + " " + what, x.bench(i, k % 7, what), p == null ? -2 : p.bench(k % 7, what));
        due("told " + i + " " + sort + " " + k + " " + what, x.told(i, sort, k, what), p == null ? NONE : p.told(sort, k, what));
        due("sight " + i + " " + k + " " + what, x.sight(i, k, what), rows(1, i, k, what));
        due("plan " + i + " " + k + " " + what, x.plan(i, k, what), rows(3, i, k, what));
        int few = what > 3 ? 3 : what;
        if (k != NONE || few != 1) {
            due("alarm " + i + " " + k + " " + few, x.alarm(i, k, few), rows(2, i, k, few));
        }
    }

    private int rows(int sort, int i, int k, int what) {
        if (i >= now.texts.get(sort).size()) {
            return -2;
        }
        List<int[]> rows = new PlainText(sort, now.texts.get(sort).get(i)).rows;
        if (k == NONE && what == 0) {
            return rows.size();
        }
        return k < 0 || k >= rows.size() || what < 0 || what >= rows.get(k).length ? -2 : rows.get(k)[what];
    }

    /** What comes of things hangs on them alone, not on their numbers, on others, or on what was asked ahead. */
    private void askOutcome() {
        int[] at = new int[4];
        WetPaint y = new WetPaint();
        for (int sort = 0; sort < 4; sort++) {
            List<String> there = now.texts.get(sort);
            if (there.isEmpty()) {
                at[sort] = 0;
                continue;
            }
            at[sort] = random.nextInt(there.size());
            Check.text(y, sort, NONE, there.get(at[sort]));
        }
        int[] n = {random.nextInt(49) - 1, random.nextInt(7) - 1, random.nextInt(15) - 1, random.nextInt(7) - 1};
        int seed = random.nextInt();
        boolean other = random.nextBoolean();
        for (int call = 0; call < Outcome.CALLS; call++) {
            if (random.nextInt(4) == 0) {
                int got = Outcome.ask(x, call, at, n, seed, other);
                int want = Outcome.ask(y, call, new int[4], n, seed, other);
                due(Outcome.name(call) + " by " + Arrays.toString(n) + " of " + now.texts, got, want);
            }
        }
    }

    private void run() {
        while (calls < CALLS - 70) {
            int kind = random.nextInt(10);
            if (kind == 0) {
                image();
            } else if (kind == 1) {
                end(random.nextInt(now.tape.length() + 3) - 1);
            } else if (kind == 2) {
                feed("bench 3; pigeon 0 7;");
            } else if (kind < 6) {
                int sort = random.nextInt(20) == 0 ? random.nextInt(3) * 3 - 2 : random.nextInt(3) < 2 ? 0 : random.nextInt(4);
                if (random.nextInt(4) > 0) {
                    end(0);
                }
                tell(sort, DrawnText.of(random, Math.max(0, Math.min(sort, 3))));
            } else if (kind < 8) {
                askTold();
            } else {
                askOutcome();
            }
        }
    }

    /** One text on one new object: its FAULT and its place alone. */
    private static void readOne(Random random) {
        int sort = random.nextInt(4);
        String text = DrawnText.of(random, sort);
        PlainText read = new PlainText(sort, text);
        faults[read.fault]++;
        WetPaint x = new WetPaint();
        check.due("text of " + text, Check.text(x, sort, NONE, text), read.fault == 0 ? 0 : NONE);
        check.due("fault of " + text, x.fault(0), read.fault);
        check.due("place in " + text, x.fault(1), read.place);
    }

    private static final Integer[] faults = {0, 0, 0, 0, 0, 0};

    public static void main(String[] args) {
        for (int seed = 0; seed < 1200; seed++) {
            new RunsTest(seed).run();
        }
        Random random = new Random(20261118);
        for (int i = 0; i < 60000; i++) {
            readOne(random);
        }
        // Texts of each FAULT, and without one, are drawn often enough to say something.
        check.due("texts of each fault " + Arrays.toString(faults), Collections.min(Arrays.asList(faults)) > 200, true);
        check.end("RunsTest");
    }
}
