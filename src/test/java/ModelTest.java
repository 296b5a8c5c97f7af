import java.util.ArrayList;
import java.util.List;
import java.util.Random;
import java.util.TreeMap;
import java.util.TreeSet;

/** Drawn parks, sights, alarms and plans against a second, plain telling of the document's terms. */
public final class ModelTest {
    private static final Check check = new Check();
    private static final int NONE = WetPaint.NONE;
    private static final String[] HABITS = {"card", "touch", "print", "sheep", "best"};
    private static final String[] PRINTS = {"dust", "faint", "deep"};

    /** A PARK as plain as it goes; rows are as told() has them. */
    private static final class Model {
        int[] rates = new int[48];
        int fresh = 20;
        int sticky = 8;
        int belief = 0;
        List<Integer> slats = new ArrayList<>();
        Integer[] painted = new Integer[6];
        int[][] cards = new int[6][];
        List<int[]> maybes = new ArrayList<>();
        List<int[]> pigeons = new ArrayList<>();
        List<int[]> comers = new ArrayList<>();

        Model copy() {
            Model m = new Model();
            m.rates = rates.clone();
            m.fresh = fresh;
            m.sticky = sticky;
            m.belief = belief;
            m.slats = new ArrayList<>(slats);
            m.painted = painted.clone();
            m.cards = cards.clone();
            m.maybes = new ArrayList<>(maybes);
            m.pigeons = new ArrayList<>(pigeons);
            for (int[] comer : comers) {
                m.comers.add(comer.clone());
            }
            return m;
        }

        int wetness(Integer p, int h) {
            if (p == null || h < p) {
                return 0;
            }
            int w = fresh;
            for (int i = p; i < h; i++) {
                w -= rates[Math.min(i, 47)];
            }
            return Math.max(w, 0);
        }

        int stage(Integer p, int h) {
            int w = wetness(p, h);
            return w > sticky ? 2 : w > 0 ? 1 : 0;
        }

        int dries(Integer p) {
            int h = p == null ? 0 : p;
            while (h < 48 && wetness(p, h) > 0) {
                h++;
            }
            return h;
        }
    }

    /** What comes of one day: for each COMER the six numbers of did(), and sums. */
    private static final class Result {
        int[][] did;
        int harm;
        int worth;
        int stripes;
        int sat;
        int[] deep = new int[6];
        int[] faint = new int[6];

        int has(Model m, int k) {
            return (did[k][0] >= 2 ? m.comers.get(k)[3] : 0) - did[k][2];
        }
    }

    private static int part(int cost, int stage) {
        return stage == 2 ? cost : stage == 1 ? cost / 2 : 0;
    }

    /** found: TRUE ones, all. */
    private static Result day(Model m, int[] found) {
        Result r = new Result();
        r.did = new int[m.comers.size()][6];
        List<int[]> prints = new ArrayList<>();
        List<int[]> sittings = new ArrayList<>();
        for (int h = 0; h < 48; h++) {
            for (int[] pigeon : m.pigeons) {
                if (pigeon[1] == h) {
                    prints.add(new int[] {pigeon[0], h, m.stage(m.painted[pigeon[0]], h)});
                }
            }
            for (int k = 0; k < m.comers.size(); k++) {
                int[] c = m.comers.get(k);
                if (c[1] != h) {
                    continue;
                }
                int b = c[2];
                Integer p = m.painted[b];
                int stage = m.stage(p, h);
                boolean hangs = m.cards[b] != null && h >= m.cards[b][0] && h <= m.cards[b][1];
                boolean believes = found[1] == 0 || 100.0 * found[0] / found[1] >= m.belief - 1e-9;
                boolean touches = c[0] == 1;
                boolean sits = c[0] == 0 && !(hangs && believes);
                if (c[0] == 2) {
                    int kind = 0;
                    for (int[] print : prints) {
                        if (print[0] == b && print[2] > 0 && (p == null || print[1] >= p)) {
                            kind = h - print[1] <= 3 ? print[2] : 0;
                        }
                    }
                    touches = kind == 1;
                    sits = kind == 0;
                }
                if (c[0] == 3) {
                    for (int[] sitting : sittings) {
                        sits |= sitting[0] == b && (p == null || sitting[1] >= p);
                    }
                }
                if (c[0] == 4) {
                    sits = c[3] > part(c[4], stage);
                }
                if (touches) {
                    sits = stage == 0;
                }
                int cost = (touches ? part(c[5], stage) : 0) + (sits ? part(c[4], stage) : 0);
                int missed = !touches && !sits && stage == 0 ? c[3] : 0;
                r.did[k] = new int[] {sits ? touches ? 2 : 3 : touches ? 1 : 0, stage, cost, missed, hangs ? 1 : 0, believes ? 1 : 0};
                r.harm += cost + missed;
                if (sits) {
                    sittings.add(new int[] {b, h});
                    r.sat++;
                    r.worth += c[3];
                    r.stripes += stage == 2 ? m.slats.get(b) : 0;
                }
                if (sits || touches) {
                    prints.add(new int[] {b, h, stage});
                    if (hangs) {
                        found[1]++;
                        found[0] += stage > 0 ? 1 : 0;
                    }
                }
            }
        }
        for (int[] print : prints) {
            r.deep[print[0]] += print[2] == 2 ? 1 : 0;
            r.faint[print[0]] += print[2] == 1 ? 1 : 0;
        }
        return r;
    }

    private static Result day(Model m) {
        return day(m, new int[2]);
    }

    private static String text(Model m, Random random) {
        StringBuilder t = new StringBuilder();
        t.append("fresh ").append(m.fresh).append(";sticky ").append(m.sticky).append(";belief ").append(m.belief).append(';');
        int from = 0;
        for (int h = 1; h <= 48; h++) {
            if (h == 48 || m.rates[h] != m.rates[from]) {
                t.append("rate ").append(from).append(' ').append(h - 1).append(' ').append(m.rates[from]).append(';');
                from = h;
            }
        }
        for (int b = 0; b < m.slats.size(); b++) {
            t.append("bench ").append(m.slats.get(b)).append(';');
            if (m.painted[b] != null) {
                t.append("painted ").append(b).append(' ').append(m.painted[b]).append(';');
            }
            if (m.cards[b] != null) {
                t.append("card ").append(b).append(' ').append(m.cards[b][0]).append(' ').append(m.cards[b][1]).append(';');
            }
        }
        for (int[] row : m.maybes) {
            t.append("maybe ").append(row[0]).append(' ').append(row[1]).append(' ').append(row[2]).append(';');
        }
        for (int[] row : m.pigeons) {
            t.append("pigeon ").append(row[0]).append(' ').append(row[1]).append(';');
        }
        for (int[] c : m.comers) {
            t.append("comer ").append(HABITS[c[0]]);
            for (int i = 1; i < 6; i++) {
                t.append(random.nextInt(9) == 0 ? '\n' : ' ').append(c[i]);
            }
            t.append(';');
        }
        return t.toString();
    }

    private static Model drawPark(Random random) {
        Model m = new Model();
        m.fresh = 1 + random.nextInt(40);
        m.sticky = random.nextInt(m.fresh + 1);
        m.belief = random.nextInt(3) == 0 ? 0 : random.nextInt(101);
        int rate = random.nextInt(5);
        for (int h = 0; h < 48; h++) {
            rate = random.nextInt(15) == 0 ? random.nextInt(10) : rate;
            m.rates[h] = rate;
        }
        int benches = 1 + random.nextInt(6);
        int span = 1 + random.nextInt(48);
        for (int b = 0; b < benches; b++) {
            m.slats.add(1 + random.nextInt(9));
            m.painted[b] = random.nextInt(4) == 0 ? null : (Integer) random.nextInt(span);
            int from = random.nextInt(span);
            m.cards[b] = random.nextInt(3) == 0 ? null : new int[] {from, from + random.nextInt(48 - from)};
        }
        int wide = 1 + random.nextInt(benches);
        for (int i = random.nextInt(9); i > 0; i--) {
            m.maybes.add(new int[] {random.nextInt(wide), random.nextInt(span), 1 + random.nextInt(9)});
        }
        for (int i = random.nextInt(5); i > 0; i--) {
            m.pigeons.add(new int[] {random.nextInt(wide), random.nextInt(span)});
        }
        for (int i = random.nextInt(15); i > 0; i--) {
            m.comers.add(new int[] {random.nextInt(5), random.nextInt(span), random.nextInt(wide), random.nextInt(10), random.nextInt(10), random.nextInt(10)});
        }
        return m;
    }

    private static int gcd(int a, int b) {
        return b == 0 ? a : gcd(b, a % b);
    }

    private static void askDay(WetPaint x, Model m) {
        int[] found = new int[2];
        Result r = day(m, found);
        for (int k = 0; k < m.comers.size(); k++) {
            for (int what = 0; what < 6; what++) {
                check.due("did " + k + " " + what, x.did(0, k, what), r.did[k][what]);
            }
            check.due("has " + k, x.otherwise(0, k, 0), r.has(m, k));
        }
        int deep = 0;
        int faint = 0;
        for (int b = 0; b < 6; b++) {
            deep += r.deep[b];
            faint += r.faint[b];
            boolean there = b < m.slats.size();
            check.due("deep of " + b, x.day(0, 10 + b), there ? r.deep[b] : NONE);
            check.due("faint of " + b, x.day(0, 20 + b), there ? r.faint[b] : NONE);
        }
        int[] sums = {r.harm, r.worth, deep, faint, r.stripes, r.sat, found[0], found[1], NONE, NONE};
        for (int what = 0; what < sums.length; what++) {
            check.due("day " + what, x.day(0, what), sums[what]);
        }
        int days = 1 + (m.fresh * 7 + m.sticky) % 30;
        int[] all = new int[2];
        int unlike = 0;
        int ahead = 0;
        for (int d = 0; d < days; d++) {
            int harm = day(m, all).harm;
            unlike += d > 0 && harm != ahead ? 1 : 0;
            ahead = harm;
        }
        int by = gcd(all[0], all[1]);
        int[] due = {ahead, unlike, by == 0 ? 1 : all[0] / by, by == 0 ? 1 : all[1] / by};
        for (int what = 0; what < 4; what++) {
            check.due("days " + days + " " + what, x.days(0, days, what), due[what]);
        }
    }

    private static void askBench(WetPaint x, Model m, int b) {
        Integer p = m.painted[b];
        String dry = "";
        int late = 0;
        for (int h = 0; h < 48; h++) {
            check.due("wetness", x.wet(0, b, h, 0), m.wetness(p, h));
            check.due("stage", x.wet(0, b, h, 1), m.stage(p, h));
            dry += m.stage(p, h) == 0 ? "x" : " ";
        }
        for (int[] c : m.comers) {
            late += c[2] == b && m.stage(p, c[1]) > 0 ? 1 : 0;
        }
        int longest = 0;
        for (String row : dry.split(" ")) {
            longest = Math.max(longest, row.length());
        }
        check.due("dries", x.wet(0, b, 0, 2), m.dries(p));
        check.due("says", x.card(0, b, 0), m.dries(p));
        check.due("late", x.card(0, b, 1), late);
        check.due("longest", x.card(0, b, 2), longest);
        Model n = m.copy();
        n.cards[b] = null;
        int best = day(n).harm;
        int at = -1;
        for (int t = p == null ? 0 : p; t < 48; t++) {
            n.cards[b] = new int[] {p == null ? 0 : p, t};
            int harm = day(n).harm;
            if (harm < best) {
                best = harm;
                at = t;
            }
        }
        check.due("hang " + b, x.hang(0, b, false), best);
        check.due("hang's hour " + b, x.hang(0, b, true), at);
        n = m.copy();
        best = Integer.MAX_VALUE;
        for (int h = 0; h < 48; h++) {
            n.painted[b] = h;
            int harm = day(n).harm;
            if (harm < best) {
                best = harm;
                at = h;
            }
        }
        check.due("anew " + b, x.anew(0, b, false), best);
        check.due("anew's hour " + b, x.anew(0, b, true), at);
    }

    private static void askComers(WetPaint x, Model m) {
        int least = -1;
        int leastHabit = -1;
        for (int habit = 0; habit < 5; habit++) {
            Model n = m.copy();
            for (int[] c : n.comers) {
                c[0] = habit;
            }
            int harm = day(n).harm;
            check.due("rule " + habit, x.rule(0, habit), harm);
            if (leastHabit < 0 || harm < least) {
                least = harm;
                leastHabit = habit;
            }
        }
        check.due("rule", x.rule(0, NONE), leastHabit);
        int[] spare = {-1, -1, -1, -1};
        Result told = day(m);
        for (int k = 0; k < m.comers.size(); k++) {
            Model n = m.copy();
            n.comers.remove(k);
            int harm = day(n).harm;
            if (k == 0 || harm < spare[1]) {
                spare[0] = k;
                spare[1] = harm;
            }
            int bad = told.did[k][2] + told.did[k][3];
            if (bad > spare[3]) {
                spare[2] = k;
                spare[3] = bad;
            }
            askComer(x, m, k);
        }
        for (int what = 0; what < 4; what++) {
            check.due("spare " + what, x.spare(0, what), spare[what]);
        }
    }

    private static void askComer(WetPaint x, Model m, int k) {
        int[] wait = {-1, Integer.MIN_VALUE};
        for (int later = 0; later <= 47 - m.comers.get(k)[1]; later++) {
            Model n = m.copy();
            n.comers.get(k)[1] += later;
            int has = day(n).has(n, k) - later;
            if (has > wait[1]) {
                wait = new int[] {later, has};
            }
        }
        int[] away = {-1, Integer.MIN_VALUE};
        for (int b = 0; b < m.slats.size(); b++) {
            Model n = m.copy();
            n.comers.get(k)[2] = b;
            int has = day(n).has(n, k);
            if (has > away[1]) {
                away = new int[] {b, has};
            }
        }
        check.due("wait", x.otherwise(0, k, 1), wait[0]);
        check.due("wait's worth", x.otherwise(0, k, 2), wait[1]);
        check.due("away", x.otherwise(0, k, 3), away[0]);
        check.due("away's worth", x.otherwise(0, k, 4), away[1]);
    }

    /** Goes through a row hour by hour, as the painter would: the hour at which all are DRY, or above 400. */
    private static int paint(Model m, int from, List<Integer> row) {
        Integer[] done = new Integer[row.size()];
        int hour = from;
        for (int b : row) {
            boolean free = row.size() == 1;
            while (!free) {
                for (int other = 0; other < done.length; other++) {
                    free |= other != b && (done[other] == null || m.wetness(done[other], hour) == 0);
                }
                hour += free ? 0 : 1;
                if (hour > 400) {
                    return 401;
                }
            }
            hour += (m.slats.get(b) + 2) / 3;
            done[b] = hour;
        }
        while (hour <= 400) {
            boolean all = true;
            for (Integer p : done) {
                all &= m.wetness(p, hour) == 0;
            }
            if (all) {
                return hour;
            }
            hour++;
        }
        return 401;
    }

    private static void rows(int n, List<Integer> row, List<List<Integer>> all) {
        if (row.size() == n) {
            all.add(new ArrayList<>(row));
            return;
        }
        for (int b = 0; b < n; b++) {
            if (!row.contains(b)) {
                row.add(b);
                rows(n, row, all);
                row.remove(row.size() - 1);
            }
        }
    }

    private static void askOrder(WetPaint x, Model m, int from) {
        List<List<Integer>> all = new ArrayList<>();
        rows(m.slats.size(), new ArrayList<>(), all);
        int best = 401;
        List<Integer> first = null;
        for (List<Integer> row : all) {
            int hour = paint(m, from, row);
            if (hour < best) {
                best = hour;
                first = row;
            }
        }
        check.due("order from " + from, x.order(0, from, NONE), first == null ? NONE : best);
        for (int k = 0; k < m.slats.size(); k++) {
            check.due("order's row", x.order(0, from, k), first == null ? NONE : first.get(k));
        }
    }

    private static List<int[]> drawSight(Random random, Model m) {
        List<int[]> prints = new ArrayList<>();
        for (int i = random.nextInt(4); i > 0; i--) {
            int b = random.nextInt(m.slats.size());
            int h = random.nextInt(48);
            int kind = random.nextInt(3);
            if (!m.maybes.isEmpty() && random.nextInt(4) > 0) {
                int[] maybe = m.maybes.get(random.nextInt(m.maybes.size()));
                b = maybe[0];
                h = Math.min(47, maybe[1] + random.nextInt(10));
                kind = m.stage(maybe[1], h);
            }
            prints.add(new int[] {kind, b, h});
        }
        return prints;
    }

    private static void askSight(WetPaint x, Model m, List<int[]> prints, Random random) {
        int b = random.nextInt(m.slats.size());
        List<int[]> maybes = new ArrayList<>();
        for (int[] maybe : m.maybes) {
            if (maybe[0] == b) {
                maybes.add(new int[] {maybe[1], maybe[2]});
            }
        }
        if (maybes.isEmpty()) {
            maybes.add(new int[] {m.painted[b] == null ? -1 : m.painted[b], 1});
        }
        int last = 0;
        for (int[] print : prints) {
            if (print[1] == b) {
                last = Math.max(last, print[2]);
                maybes.removeIf(p -> print[2] < p[0] || m.stage(p[0] < 0 ? null : p[0], print[2]) != print[0]);
            }
        }
        int all = 0;
        TreeSet<Integer> hours = new TreeSet<>();
        for (int[] maybe : maybes) {
            all += maybe[1];
            if (maybe[0] >= 0) {
                hours.add(maybe[0]);
            }
        }
        int tells = -1;
        int least = Integer.MAX_VALUE;
        for (int h = last; h < 48 && all > 0; h++) {
            TreeMap<Integer, Integer> weights = weights(m, maybes, h);
            int greatest = 0;
            for (int w : weights.values()) {
                greatest = Math.max(greatest, w);
            }
            if (greatest < least) {
                least = greatest;
                tells = h;
            }
        }
        int[] read = {hours.size(), hours.isEmpty() ? NONE : hours.first(), hours.isEmpty() ? NONE : hours.last(), all, tells};
        for (int what = 0; what < 5; what++) {
            check.due("read " + what, x.read(0, 0, b, what), read[what]);
        }
        int h = random.nextInt(48);
        TreeMap<Integer, Integer> weights = weights(m, maybes, h);
        for (int stage = 0; stage < 3; stage++) {
            int w = weights.getOrDefault(stage, 0);
            int by = gcd(w, all);
            check.due("likely", x.likely(0, 0, b, h, stage, false), all == 0 ? NONE : w / by);
            check.due("likely under", x.likely(0, 0, b, h, stage, true), all == 0 ? NONE : all / by);
        }
        for (int k = 0; k < m.comers.size(); k++) {
            int[] c = m.comers.get(k);
            int[] worth = new int[3];
            for (int[] maybe : maybes) {
                int stage = m.stage(maybe[0] < 0 ? null : maybe[0], h);
                worth[1] += maybe[1] * ((stage == 0 ? c[3] : 0) - part(c[5], stage));
                worth[2] += maybe[1] * (c[3] - part(c[4], stage));
            }
            int best = worth[1] > 0 ? 1 : 0;
            best = worth[2] > worth[best] ? 2 : best;
            int by = gcd(worth[best], all);
            int[] act = {best, by == 0 ? 0 : worth[best] / by, by == 0 ? 0 : all / by, worth[0], worth[1], worth[2]};
            for (int what = 0; what < 6; what++) {
                check.due("act " + what, x.act(0, 0, b, h, k, what), all == 0 ? -1000000 : act[what]);
            }
        }
    }

    private static TreeMap<Integer, Integer> weights(Model m, List<int[]> maybes, int h) {
        TreeMap<Integer, Integer> weights = new TreeMap<>();
        for (int[] maybe : maybes) {
            weights.merge(m.stage(maybe[0] < 0 ? null : maybe[0], h), maybe[1], Integer::sum);
        }
        return weights;
    }

    private static void askPlan(WetPaint x, Model m, Random random) {
        List<int[]> rows = new ArrayList<>();
        StringBuilder text = new StringBuilder();
        int benches = random.nextInt(5) == 0 ? 6 : m.slats.size();
        for (int i = random.nextInt(7); i > 0; i--) {
            int[] row = {random.nextInt(benches), random.nextInt(48), random.nextInt(48)};
            rows.add(row);
            text.append("halves ").append(row[0]).append(' ').append(row[1]).append(' ').append(row[2]).append(';');
        }
        Check.text(x, 3, x.count(3) == 0 ? NONE : 0, text.toString());
        boolean there = true;
        for (int[] row : rows) {
            there &= row[0] < m.slats.size();
        }
        boolean always = true;
        int[] open = new int[rows.size()];
        int[] whole = new int[rows.size()];
        for (int h = 0; h < 48; h++) {
            boolean[] dry = new boolean[6];
            for (int b = 0; b < m.slats.size(); b++) {
                dry[b] = m.stage(m.painted[b], h) == 0;
            }
            for (int k = 0; k < rows.size(); k++) {
                boolean one = m.stage(rows.get(k)[1], h) == 0;
                boolean two = m.stage(rows.get(k)[2], h) == 0;
                open[k] += one || two ? 1 : 0;
                whole[k] += one && two ? 1 : 0;
                dry[rows.get(k)[0]] = one || two;
            }
            boolean some = false;
            for (boolean d : dry) {
                some |= d;
            }
            always &= some;
        }
        check.due("always", x.halves(0, 0, NONE, 0), there ? always ? 1 : 0 : NONE);
        for (int k = 0; k < rows.size(); k++) {
            check.due("open", x.halves(0, 0, k, 0), there ? open[k] : NONE);
            check.due("whole", x.halves(0, 0, k, 1), there ? whole[k] : NONE);
        }
    }

    private static void askAlarms(Random random) {
        WetPaint x = new WetPaint();
        StringBuilder text = new StringBuilder();
        int n = random.nextInt(9);
        int mend = NONE;
        double most = -1;
        int small = 1 + random.nextInt(99);
        int[][] due = new int[n][];
        for (int k = 0; k < n; k++) {
            int of = 1 + random.nextInt(20);
            int trues = random.nextInt(of + 1);
            int loss = random.nextInt(small + 1);
            int toil = random.nextInt(small + 1);
            text.append("alarm ").append(trues).append(' ').append(of).append(' ').append(loss).append(' ').append(toil).append(';');
            int cost = Math.min(trues * loss, of * toil);
            int known = trues * Math.min(loss, toil);
            double fall = (double) cost / of - (double) known / of;
            if (fall > most + 1e-9) {
                most = fall;
                mend = k;
            }
            due[k] = new int[] {trues, of, loss, toil, trues * loss >= of * toil ? 1 : 0, cost};
        }
        Check.text(x, 2, NONE, text.toString());
        check.due("mend of " + text, x.alarm(0, NONE, 1), mend);
        for (int k = 0; k < n; k++) {
            for (int what = 0; what < 6; what++) {
                check.due("alarm " + what, x.alarm(0, k, what), due[k][what]);
            }
        }
    }

    public static void main(String[] args) {
        Random random = new Random(20261118);
        for (int round = 0; round < 400; round++) {
            Model m = drawPark(random);
            String text = text(m, random);
            if (text.length() > 600) {
                continue;
            }
            // An object is used for 512 calls at most, so there is more than one.
            for (int b = 0; b < m.slats.size(); b++) {
                askBench(Check.of(text), m, b);
            }
            WetPaint x = Check.of(text);
            askDay(x, m);
            askComers(x, m);
            askOrder(x, m, random.nextInt(48));
            for (int again = 0; again < 4; again++) {
                x = again % 2 == 0 ? Check.of(text) : x;
                List<int[]> prints = drawSight(random, m);
                StringBuilder seen = new StringBuilder();
                for (int[] print : prints) {
                    seen.append(PRINTS[print[0]]).append(' ').append(print[1]).append(' ').append(print[2]).append(';');
                }
                Check.text(x, 1, x.count(1) == 0 ? NONE : 0, seen.toString());
                askSight(x, m, prints, random);
                askPlan(x, m, random);
            }
            askAlarms(random);
        }
        check.end("ModelTest");
    }
}
