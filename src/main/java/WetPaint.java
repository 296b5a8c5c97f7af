import java.util.Arrays;

/** Wet paint: parks, sights, alarms and plans told as texts, and what comes of them. README.md says how to use it. */
public final class WetPaint {
    public static final int NONE = -1;

    private static final int NO_SUCH = -2;
    private static final int NO_WORTH = -1000000;

    private static final int HOURS = 48;
    private static final int LAST_HOUR = 47;
    private static final int TAPE = 600;
    private static final int FED = 20;
    private static final int IMAGES = 3;
    private static final int EACH = 2;

    private static final int PARKS = 0;
    private static final int SIGHTS = 1;
    private static final int ALARMS = 2;
    private static final int PLANS = 3;
    private static final int SORTS = 4;

    private static final int BENCHES = 6;
    private static final int MAYBES = 8;
    private static final int PIGEONS = 4;
    private static final int COMERS = 14;
    private static final int PRINTS = 10;
    private static final int ALARM_ROWS = 8;
    private static final int HALVES = 6;

    private static final int DRY = 0;
    private static final int STICKY = 1;
    private static final int WET = 2;
    private static final int STAGES = 3;

    private static final int CARD = 0;
    private static final int TOUCH = 1;
    private static final int PRINT = 2;
    private static final int SHEEP = 3;
    private static final int HABITS = 5;

    private static final int GOES = 0;
    private static final int TOUCHES_AND_GOES = 1;
    private static final int TOUCHES_AND_SITS = 2;
    private static final int SITS = 3;

    // The columns of a COMER's row.
    private static final int HABIT = 0;
    private static final int HOUR = 1;
    private static final int BENCH = 2;
    private static final int WORTH = 3;
    private static final int STAIN = 4;
    private static final int TOUCHING = 5;

    // The columns of what a COMER did.
    private static final int ACT = 0;
    private static final int STAGE = 1;
    private static final int COST = 2;
    private static final int MISSED = 3;
    private static final int UNDER_CARD = 4;
    private static final int BELIEVED = 5;

    private static final int DAYS = 30;
    private static final int DRY_BY = 400;
    private static final int PRINT_TELLS = 3;

    private final Told now;
    private final Told[] images;
    private final Reader reader;
    private final Day today;
    private final Trial trial;
    private final Fits fits;
    private final Painter painter;

    public WetPaint() {
        now = new Told();
        images = new Told[IMAGES];
        reader = new Reader();
        today = new Day();
        trial = new Trial();
        fits = new Fits();
        painter = new Painter();
    }

    public int feed(int a, int b, int c, int d, int e) {
        if (now.length + FED > TAPE) {
            return NONE;
        }
        now.put(a);
        now.put(b);
        now.put(c);
        now.put(d);
        now.put(e);
        return now.length;
    }

    public int end(int n) {
        if (n < 0 || n > now.length) {
            return NONE;
        }
        now.length = n;
        return n;
    }

    public int text(int sort, int at) {
        // The tape is taken in any case, also where no text is read from it.
        int taken = now.length;
        now.length = 0;
        now.fault = 0;
        now.place = NONE;
        int there = now.howMany(sort);
        if (there < 0) {
            return NO_SUCH;
        }
        boolean further = at == NONE;
        if (further ? there >= EACH : at < 0 || at >= there) {
            return NO_SUCH;
        }
        reader.readText(now.tape, taken, sort);
        now.fault = reader.fault;
        now.place = reader.place;
        if (now.fault != 0) {
            return NONE;
        }
        int where = further ? there : at;
        now.keep(sort, where, reader);
        return where;
    }

    public int fault(int what) {
        if (what == 0) {
            return now.fault;
        }
        return what == 1 ? now.place : NONE;
    }

    public int park(int park, int what) {
        Park p = now.parkAt(park);
        if (p == null) {
            return NONE;
        }
        switch (what) {
            case 0: return p.fresh;
            case 1: return p.sticky;
            case 2: return p.belief;
            case 3: return p.benches;
            case 4: return p.maybes.size;
            case 5: return p.pigeons.size;
            case 6: return p.comers.size;
            default: break;
        }
        if (what >= 10 && what < 10 + HOURS) {
            return p.rates[what - 10];
        }
        return NONE;
    }

    public int bench(int park, int bench, int what) {
        Park p = now.parkAt(park);
        if (p == null || !p.hasBench(bench)) {
            return NO_SUCH;
        }
        switch (what) {
            case 0: return p.slats[bench];
            case 1: return p.painted[bench];
            case 2: return p.cardFrom[bench];
            case 3: return p.cardTo[bench];
            default: return NO_SUCH;
        }
    }

    public int told(int park, int sort, int k, int what) {
        Park p = now.parkAt(park);
        if (p == null) {
            return NONE;
        }
        switch (sort) {
            case 0: return p.maybes.get(k, what);
            case 1: return p.pigeons.get(k, what);
            case 2: return p.comers.get(k, what);
            default: return NONE;
        }
    }

    public int wet(int park, int bench, int hour, int what) {
        Park p = now.parkAt(park);
        // DRIES does not hang on the hour, but an hour that there is not has no answer either.
        if (p == null || !p.hasBench(bench) || !isHour(hour)) {
            return NONE;
        }
        switch (what) {
            case 0: return p.wetness(p.painted[bench], hour);
            case 1: return p.stageOf(bench, hour);
            case 2: return p.dries(p.painted[bench]);
            default: return NONE;
        }
    }

    public int did(int park, int k, int what) {
        Park p = now.parkAt(park);
        if (p == null) {
            return NONE;
        }
        today.forget();
        today.goThrough(p);
        return today.done.get(k, what);
    }

    public int day(int park, int what) {
        Park p = now.parkAt(park);
        if (p == null) {
            return NONE;
        }
        today.forget();
        today.goThrough(p);
        return today.sum(what, p.benches);
    }

    public int hang(int park, int bench, boolean hour) {
        Park p = now.parkAt(park);
        if (p == null || !p.hasBench(bench)) {
            return NO_SUCH;
        }
        trial.hangCard(p, bench);
        return hour ? trial.which : trial.best;
    }

    public int rule(int park, int habit) {
        Park p = now.parkAt(park);
        if (p == null || habit < NONE || habit >= HABITS) {
            return NO_SUCH;
        }
        if (habit != NONE) {
            return trial.harmByHabit(p, habit);
        }
        trial.chooseHabit(p);
        return trial.which;
    }

    public int card(int park, int bench, int what) {
        Park p = now.parkAt(park);
        if (p == null || !p.hasBench(bench)) {
            return NONE;
        }
        switch (what) {
            case 0: return p.dries(p.painted[bench]);
            case 1: return p.late(bench);
            case 2: return p.longestDry(bench);
            default: return NONE;
        }
    }

    public int days(int park, int days, int what) {
        Park p = now.parkAt(park);
        if (p == null || days < 1 || days > DAYS || what < 0 || what > 3) {
            return NONE;
        }
        int unlike = today.runDays(p, days);
        if (what == 0) {
            return today.harm;
        }
        if (what == 1) {
            return unlike;
        }
        if (today.found == 0) {
            return 1;
        }
        return inLeastTerms(today.trues, today.found, what == 3);
    }

    public int order(int park, int hour, int k) {
        Park p = now.parkAt(park);
        if (p == null || p.benches < 1 || !isHour(hour) || k < NONE || k >= p.benches) {
            return NO_SUCH;
        }
        painter.choose(p, hour);
        if (painter.allDry > DRY_BY) {
            return NONE;
        }
        return k == NONE ? painter.allDry : painter.benchAt(k, p.benches);
    }

    public int sight(int sight, int k, int what) {
        Rows prints = now.rowsAt(SIGHTS, sight);
        return rowsAnswer(prints, k, what);
    }

    public int likely(int park, int sight, int bench, int hour, int stage, boolean under) {
        if (!findFits(park, sight, bench) || fits.all < 1 || !isHour(hour) || stage < DRY || stage > WET) {
            return NONE;
        }
        fits.weighStages(hour);
        return inLeastTerms(fits.ofStage[stage], fits.all, under);
    }

    public int act(int park, int sight, int bench, int hour, int k, int what) {
        Park p = now.parkAt(park);
        if (!findFits(park, sight, bench) || p == null || fits.all < 1 || !isHour(hour)) {
            return NO_WORTH;
        }
        if (k < 0 || k >= p.comers.size || what < 0 || what > 5) {
            return NO_WORTH;
        }
        fits.weighStages(hour);
        if (what >= 3) {
            return fits.worthOf(what - 3, p.comers, k);
        }
        int best = fits.bestAct(p.comers, k);
        if (what == 0) {
            return best;
        }
        return inLeastTerms(fits.worthOf(best, p.comers, k), fits.all, what == 2);
    }

    public int read(int park, int sight, int bench, int what) {
        if (!findFits(park, sight, bench)) {
            return NO_SUCH;
        }
        switch (what) {
            case 0: return fits.unlikeHours();
            case 1: return fits.firstHour();
            case 2: return fits.lastHour();
            case 3: return fits.all;
            case 4: return fits.tellingHour();
            default: return NO_SUCH;
        }
    }

    public int alarm(int alarms, int k, int what) {
        Rows rows = now.rowsAt(ALARMS, alarms);
        if (rows == null) {
            return NO_SUCH;
        }
        if (k == NONE && what == 1) {
            return alarmToMend(rows);
        }
        if (k < 0 || k >= rows.size || what < 4) {
            return rowsAnswer(rows, k, what);
        }
        if (what == 4) {
            return costUnheeded(rows, k) >= costHeeded(rows, k) ? 1 : 0;
        }
        return what == 5 ? costTimesOf(rows, k) : NO_SUCH;
    }

    public int plan(int plan, int k, int what) {
        Rows halves = now.rowsAt(PLANS, plan);
        return rowsAnswer(halves, k, what);
    }

    public int halves(int park, int plan, int k, int what) {
        Park p = now.parkAt(park);
        Rows rows = now.rowsAt(PLANS, plan);
        if (p == null || rows == null || !allThere(p, rows)) {
            return NONE;
        }
        if (k == NONE) {
            return what == 0 ? oneAlwaysDry(p, rows) : NONE;
        }
        if (k < 0 || k >= rows.size || what < 0 || what > 1) {
            return NONE;
        }
        int dryHours = 0;
        int enough = what == 0 ? 1 : 2;
        for (int h = 0; h < HOURS; h++) {
            if (dryHalves(p, rows, k, h) >= enough) {
                dryHours++;
            }
        }
        return dryHours;
    }

    public int drawn(int park, int seed, int n, int what) {
        Park p = now.parkAt(park);
        if (p == null || p.benches < 1 || n < 1 || n > COMERS) {
            return NONE;
        }
        trial.draw(p, seed, n);
        if (what >= 30) {
            return trial.day.done.get(what - 30, ACT);
        }
        return trial.day.sum(what, p.benches);
    }

    public int otherwise(int park, int k, int what) {
        Park p = now.parkAt(park);
        if (p == null || k < 0 || k >= p.comers.size) {
            return NO_WORTH;
        }
        switch (what) {
            case 0: return trial.hasAsTold(p, k);
            case 1: trial.comeLater(p, k); return trial.which;
            case 2: trial.comeLater(p, k); return trial.best;
            case 3: trial.comeElsewhere(p, k); return trial.which;
            case 4: trial.comeElsewhere(p, k); return trial.best;
            default: return NO_WORTH;
        }
    }

    public int spare(int park, int what) {
        Park p = now.parkAt(park);
        if (p == null || what < 0 || what > 3) {
            return NO_SUCH;
        }
        if (p.comers.size == 0) {
            return NONE;
        }
        if (what < 2) {
            trial.leaveOneOut(p);
        } else {
            trial.findWorst(p);
        }
        return what == 0 || what == 2 ? trial.which : trial.best;
    }

    public int anew(int park, int bench, boolean hour) {
        Park p = now.parkAt(park);
        if (p == null || !p.hasBench(bench)) {
            return NO_SUCH;
        }
        trial.paintAnew(p, bench);
        return hour ? trial.which : trial.best;
    }

    public int count(int sort) {
        return now.howMany(sort);
    }

    public boolean image(int k) {
        if (k < 0 || k >= IMAGES) {
            return false;
        }
        Told kept = images[k];
        if (kept == null) {
            kept = new Told();
            images[k] = kept;
        }
        kept.copyFrom(now);
        return true;
    }

    public boolean again(int k) {
        if (k < 0 || k >= IMAGES) {
            return false;
        }
        Told kept = images[k];
        if (kept == null) {
            return false;
        }
        now.copyFrom(kept);
        return true;
    }

    private static boolean isHour(int hour) {
        return hour >= 0 && hour < HOURS;
    }

    /** What a COMER bears of a cost at a STAGE. */
    private static int atStage(int cost, int stage) {
        if (stage == WET) {
            return cost;
        }
        return stage == STICKY ? cost / 2 : 0;
    }

    private static int inLeastTerms(int above, int below, boolean under) {
        int a = Math.abs(above);
        int b = Math.abs(below);
        // Euclid's rule needs fewer steps than an int has bits, times two.
        for (int i = 0; i < 64 && b != 0; i++) {
            int rest = a % b;
            a = b;
            b = rest;
        }
        int whole = under ? below : above;
        return a == 0 ? whole : whole / a;
    }

    /** How many rows there are (k NONE, what 0), or a number of row k. */
    private static int rowsAnswer(Rows rows, int k, int what) {
        if (rows == null) {
            return NO_SUCH;
        }
        if (k == NONE && what == 0) {
            return rows.size;
        }
        return rows.has(k, what) ? rows.get(k, what) : NO_SUCH;
    }

    private boolean findFits(int park, int sight, int bench) {
        Park p = now.parkAt(park);
        Rows prints = now.rowsAt(SIGHTS, sight);
        if (p == null || prints == null || !p.hasBench(bench)) {
            return false;
        }
        fits.find(p, prints, bench);
        return true;
    }

    private static int costUnheeded(Rows alarms, int k) {
        return alarms.get(k, 0) * alarms.get(k, 2);
    }

    private static int costHeeded(Rows alarms, int k) {
        return alarms.get(k, 1) * alarms.get(k, 3);
    }

    private static int costTimesOf(Rows alarms, int k) {
        return Math.min(costUnheeded(alarms, k), costHeeded(alarms, k));
    }

    /** How much of COST times OF would fall away, if one knew when the ALARM is true. */
    private static int fallTimesOf(Rows alarms, int k) {
        int known = alarms.get(k, 0) * Math.min(alarms.get(k, 2), alarms.get(k, 3));
        return costTimesOf(alarms, k) - known;
    }

    /** The ALARM of which COST falls most; falls are told times OF, so each is set against the other's OF. */
    private static int alarmToMend(Rows alarms) {
        int mend = NONE;
        int mendFall = 0;
        int mendOf = 1;
        for (int k = 0; k < alarms.size; k++) {
            int fall = fallTimesOf(alarms, k);
            int of = alarms.get(k, 1);
            if (mend == NONE || fall * mendOf > mendFall * of) {
                mend = k;
                mendFall = fall;
                mendOf = of;
            }
        }
        return mend;
    }

    private static boolean allThere(Park p, Rows halves) {
        for (int k = 0; k < halves.size; k++) {
            if (!p.hasBench(halves.get(k, 0))) {
                return false;
            }
        }
        return true;
    }

    private static int dryHalves(Park p, Rows halves, int k, int hour) {
        int first = p.stage(halves.get(k, 1), hour) == DRY ? 1 : 0;
        int second = p.stage(halves.get(k, 2), hour) == DRY ? 1 : 0;
        return first + second;
    }

    private static int oneAlwaysDry(Park p, Rows halves) {
        for (int h = 0; h < HOURS; h++) {
            boolean one = false;
            for (int b = 0; b < p.benches && !one; b++) {
                int k = lastToldOf(halves, b);
                one = k == NONE ? p.stageOf(b, h) == DRY : dryHalves(p, halves, k, h) > 0;
            }
            if (!one) {
                return 0;
            }
        }
        return 1;
    }

    private static int lastToldOf(Rows halves, int bench) {
        int last = NONE;
        for (int k = 0; k < halves.size; k++) {
            if (halves.get(k, 0) == bench) {
                last = k;
            }
        }
        return last;
    }

    /** Rows of numbers, all of one width, up to a limit. */
    private static final class Rows {
        final int width;
        final int limit;
        final int[] cells;
        int size;

        Rows(int width, int limit) {
            this.width = Math.max(0, width);
            this.limit = Math.max(0, limit);
            this.cells = new int[this.width * this.limit];
            this.size = 0;
        }

        boolean has(int row, int column) {
            return row >= 0 && row < size && column >= 0 && column < width;
        }

        boolean isFull() {
            return size >= limit;
        }

        /** A number of a row, NONE where there is none such. */
        int get(int row, int column) {
            if (row < 0 || row >= size || column < 0 || column >= width) {
                return NONE;
            }
            return cells[row * width + column];
        }

        void set(int row, int column, int value) {
            if (has(row, column)) {
                cells[row * width + column] = value;
            }
        }

        /** A further row of zeros: its number, NONE if there are as many as may be. */
        int open() {
            if (isFull()) {
                return NONE;
            }
            int row = size;
            size++;
            for (int c = 0; c < width; c++) {
                cells[row * width + c] = 0;
            }
            return row;
        }

        void add(int[] numbers) {
            int row = open();
            for (int c = 0; c < width && c < numbers.length; c++) {
                set(row, c, numbers[c]);
            }
        }

        void remove(int row) {
            if (row < 0 || row >= size) {
                return;
            }
            size--;
            for (int i = row * width; i < size * width; i++) {
                cells[i] = cells[i + width];
            }
        }

        /** Takes the rows of another of the same width. */
        void copyFrom(Rows other) {
            if (other.width != width) {
                return;
            }
            size = Math.min(other.size, limit);
            System.arraycopy(other.cells, 0, cells, 0, size * width);
        }
    }

    /** A PARK as told. */
    private static final class Park {
        int fresh;
        int sticky;
        int belief;
        int benches;
        final int[] rates = new int[HOURS];
        // The RATES of all hours ahead of one, so that a WETNESS is one subtraction.
        final int[] sums = new int[HOURS];
        final int[] slats = new int[BENCHES];
        final int[] painted = new int[BENCHES];
        final int[] cardFrom = new int[BENCHES];
        final int[] cardTo = new int[BENCHES];
        final Rows maybes = new Rows(3, MAYBES);
        final Rows pigeons = new Rows(2, PIGEONS);
        final Rows comers = new Rows(6, COMERS);

        void clear() {
            fresh = 20;
            sticky = 8;
            belief = 0;
            benches = 0;
            Arrays.fill(rates, 2);
            Arrays.fill(slats, 0);
            Arrays.fill(painted, NONE);
            Arrays.fill(cardFrom, NONE);
            Arrays.fill(cardTo, NONE);
            maybes.size = 0;
            pigeons.size = 0;
            comers.size = 0;
        }

        void copyFrom(Park other) {
            fresh = other.fresh;
            sticky = other.sticky;
            belief = other.belief;
            benches = other.benches;
            System.arraycopy(other.rates, 0, rates, 0, HOURS);
            System.arraycopy(other.sums, 0, sums, 0, HOURS);
            System.arraycopy(other.slats, 0, slats, 0, BENCHES);
            System.arraycopy(other.painted, 0, painted, 0, BENCHES);
            System.arraycopy(other.cardFrom, 0, cardFrom, 0, BENCHES);
            System.arraycopy(other.cardTo, 0, cardTo, 0, BENCHES);
            maybes.copyFrom(other.maybes);
            pigeons.copyFrom(other.pigeons);
            comers.copyFrom(other.comers);
        }

        void sumRates() {
            int sum = 0;
            for (int h = 0; h < HOURS; h++) {
                sums[h] = sum;
                sum += rates[h];
            }
        }

        boolean hasBench(int bench) {
            return bench >= 0 && bench < benches && bench < BENCHES;
        }

        /** WETNESS at an hour of paint of an hour; NONE is paint of never. */
        int wetness(int paint, int hour) {
            if (paint < 0 || hour < paint || hour >= HOURS) {
                return 0;
            }
            int left = fresh - (sums[hour] - sums[paint]);
            return left > 0 ? left : 0;
        }

        private int stageBy(int wetness) {
            if (wetness > sticky) {
                return WET;
            }
            return wetness > 0 ? STICKY : DRY;
        }

        int stage(int paint, int hour) {
            return stageBy(wetness(paint, hour));
        }

        int stageOf(int bench, int hour) {
            return hasBench(bench) ? stageBy(wetness(painted[bench], hour)) : DRY;
        }

        void setRates(int from, int to, int rate) {
            for (int h = Math.max(0, from); h <= to && h < HOURS; h++) {
                rates[h] = rate;
            }
        }

        void addBench(int itsSlats) {
            if (benches < BENCHES) {
                slats[benches] = itsSlats;
                benches++;
            }
        }

        /** A BENCH may be told of ahead of the line that tells it, so hasBench does not count here. */
        void setPainted(int bench, int hour) {
            if (bench >= 0 && bench < BENCHES) {
                painted[bench] = hour;
            }
        }

        void setCard(int bench, int from, int to) {
            if (bench >= 0 && bench < BENCHES) {
                cardFrom[bench] = from;
                cardTo[bench] = to;
            }
        }

        int dries(int paint) {
            for (int h = Math.max(0, paint); h < HOURS; h++) {
                if (wetness(paint, h) == 0) {
                    return h;
                }
            }
            return HOURS;
        }

        boolean hasCard(int bench, int hour) {
            return hasBench(bench) && cardFrom[bench] != NONE && hour >= cardFrom[bench] && hour <= cardTo[bench];
        }

        /** How many COMERS come to a BENCH while it is not DRY. */
        int late(int bench) {
            int late = 0;
            for (int k = 0; k < comers.size; k++) {
                if (comers.get(k, BENCH) == bench && stageOf(bench, comers.get(k, HOUR)) != DRY) {
                    late++;
                }
            }
            return late;
        }

        int longestDry(int bench) {
            int longest = 0;
            int row = 0;
            for (int h = 0; h < HOURS; h++) {
                row = stageOf(bench, h) == DRY ? row + 1 : 0;
                longest = Math.max(longest, row);
            }
            return longest;
        }

        /** RATES of hours behind the last one are that of the last one. */
        int rateAt(int hour) {
            return hour < 0 ? 0 : rates[Math.min(hour, LAST_HOUR)];
        }
    }

    /** All that is told: what an image holds. */
    private static final class Told {
        final byte[] tape = new byte[TAPE];
        int length = 0;
        int fault = 0;
        int place = NONE;
        final int[] counts = new int[SORTS];
        final Park[] parks = new Park[EACH];
        // Place 0 of a sort's two Rows stands at sort * EACH; the PARKS' own two stay unused.
        final Rows[] rows = new Rows[SORTS * EACH];

        Told() {
            for (int i = 0; i < EACH; i++) {
                parks[i] = new Park();
                rows[SIGHTS * EACH + i] = new Rows(3, PRINTS);
                rows[ALARMS * EACH + i] = new Rows(4, ALARM_ROWS);
                rows[PLANS * EACH + i] = new Rows(3, HALVES);
            }
        }

        void put(int number) {
            for (int shift = 24; shift >= 0 && length < TAPE; shift -= 8) {
                tape[length] = (byte) (number >>> shift);
                length++;
            }
        }

        int howMany(int sort) {
            return sort < 0 || sort >= SORTS ? NO_SUCH : counts[sort];
        }

        Park parkAt(int k) {
            return k < 0 || k >= EACH || k >= counts[PARKS] ? null : parks[k];
        }

        /** SIGHT, ALARMS or PLAN k; null if there is none such. */
        Rows rowsAt(int sort, int k) {
            if (sort <= PARKS || sort >= SORTS || k < 0 || k >= EACH || k >= counts[sort]) {
                return null;
            }
            return rows[sort * EACH + k];
        }

        /** Keeps what was read in a place, which may be the one behind the last. */
        void keep(int sort, int where, Reader read) {
            if (sort < 0 || sort >= SORTS || where < 0 || where >= EACH) {
                return;
            }
            counts[sort] = Math.max(counts[sort], where + 1);
            Rows kept = rowsAt(sort, where);
            if (kept != null) {
                kept.copyFrom(read.rowsOf(sort));
            } else if (parks[where] != null) {
                parks[where].copyFrom(read.park);
            }
        }

        void copyFrom(Told other) {
            length = other.length;
            System.arraycopy(other.tape, 0, tape, 0, Math.min(length, TAPE));
            fault = other.fault;
            place = other.place;
            for (int sort = 0; sort < SORTS; sort++) {
                counts[sort] = other.counts[sort];
                for (int k = 0; k < EACH; k++) {
                    Rows from = other.rowsAt(sort, k);
                    Rows to = rowsAt(sort, k);
                    if (from != null && to != null) {
                        to.copyFrom(from);
                    }
                }
            }
            for (int k = 0; k < EACH; k++) {
                Park from = other.parkAt(k);
                Park to = parkAt(k);
                if (from != null && to != null) {
                    to.copyFrom(from);
                }
            }
        }
    }

    /** Reads a text of a sort from the tape into drafts of its own, so that a FAULT leaves all told as it is. */
    private static final class Reader {
        private static final int END = 0;
        private static final int WORD = 1;
        private static final int NUMBER = 2;
        private static final int STOP = 3;
        private static final int NO_TOKEN = 4;

        private static final int RATE_LINE = 0;
        private static final int FRESH_LINE = 1;
        private static final int STICKY_LINE = 2;
        private static final int BELIEF_LINE = 3;
        private static final int BENCH_LINE = 4;
        private static final int PAINTED_LINE = 5;
        private static final int CARD_LINE = 6;
        private static final int MAYBE_LINE = 7;
        private static final int PIGEON_LINE = 8;
        private static final int COMER_LINE = 9;
        private static final int DUST_LINE = 10;
        private static final int FAINT_LINE = 11;
        private static final int DEEP_LINE = 12;
        private static final int ALARM_LINE = 13;
        private static final int HALVES_LINE = 14;

        final Park park = new Park();
        final Rows prints = new Rows(3, PRINTS);
        final Rows alarms = new Rows(4, ALARM_ROWS);
        final Rows halves = new Rows(3, HALVES);
        int fault;
        int place;
        private final int[] numbers = new int[6];
        private byte[] tape;
        private int length;
        private int at;
        private int token;
        private int from;
        private int value;
        private int farthestBench;

        /** The draft of a SIGHT, ALARMS or a PLAN. */
        Rows rowsOf(int sort) {
            if (sort == SIGHTS) {
                return prints;
            }
            return sort == ALARMS ? alarms : halves;
        }

        void readText(byte[] bytes, int count, int sort) {
            tape = bytes;
            length = Math.min(count, bytes.length);
            at = 0;
            fault = 0;
            place = NONE;
            farthestBench = NONE;
            park.clear();
            prints.size = 0;
            alarms.size = 0;
            halves.size = 0;
            next();
            // Each line takes bytes, so there are no more lines than bytes.
            for (int line = 0; line < length && token != END && fault != 1; line++) {
                readLine(sort);
                next();
            }
            if (fault == 0 && sort == PARKS) {
                endPark();
            }
        }

        private void endPark() {
            park.sumRates();
            if (farthestBench >= park.benches) {
                noteFault(4, length);
            } else if (park.sticky > park.fresh) {
                noteFault(5, length);
            }
        }

        /** Keeps the first FAULT by place: it is called in the order of places. */
        private void noteFault(int which, int where) {
            if (fault == 0) {
                fault = which;
                place = where;
            }
        }

        /** No text goes on with the token at hand; that goes ahead of all other FAULTS. */
        private void breakOff() {
            fault = 1;
            place = from;
        }

        private void readLine(int sort) {
            int line = lineHere(sort);
            if (line == NONE) {
                breakOff();
                return;
            }
            if (isFull(line)) {
                noteFault(3, from);
            }
            String shape = shapeOf(line);
            for (int i = 0; i < shape.length() && i < numbers.length; i++) {
                next();
                if (!takeNumber(shape.charAt(i), i)) {
                    breakOff();
                    return;
                }
            }
            next();
            if (token != STOP) {
                breakOff();
            } else if (fault == 0) {
                tell(line);
            }
        }

        /** Takes the token at hand as the i-th NUMBER of a line, a HABIT being one too; false if it is none. */
        private boolean takeNumber(char kind, int i) {
            if (i < 0 || i >= numbers.length) {
                return false;
            }
            if (kind == 'w') {
                numbers[i] = habitHere();
                return numbers[i] != NONE;
            }
            if (token != NUMBER) {
                return false;
            }
            numbers[i] = value;
            boolean behind = kind == 'u' || kind == 'o';
            int least = behind && i > 0 ? Math.max(leastOf(kind), numbers[i - 1]) : leastOf(kind);
            if (value < least || value > mostOf(kind)) {
                noteFault(2, from);
            } else if (kind == 'b') {
                farthestBench = Math.max(farthestBench, value);
            }
            return true;
        }

        private void tell(int line) {
            switch (line) {
                case RATE_LINE: park.setRates(numbers[0], numbers[1], numbers[2]); break;
                case FRESH_LINE: park.fresh = numbers[0]; break;
                case STICKY_LINE: park.sticky = numbers[0]; break;
                case BELIEF_LINE: park.belief = numbers[0]; break;
                case BENCH_LINE: park.addBench(numbers[0]); break;
                case PAINTED_LINE: park.setPainted(numbers[0], numbers[1]); break;
                case CARD_LINE: park.setCard(numbers[0], numbers[1], numbers[2]); break;
                case MAYBE_LINE: park.maybes.add(numbers); break;
                case PIGEON_LINE: park.pigeons.add(numbers); break;
                case COMER_LINE: park.comers.add(numbers); break;
                case ALARM_LINE: alarms.add(numbers); break;
                case HALVES_LINE: halves.add(numbers); break;
                default: tellPrint(line - DUST_LINE); break;
            }
        }

        private void tellPrint(int kind) {
            int row = prints.open();
            prints.set(row, 0, kind);
            prints.set(row, 1, numbers[0]);
            prints.set(row, 2, numbers[1]);
        }

        private boolean isFull(int line) {
            switch (line) {
                case BENCH_LINE: return park.benches >= BENCHES;
                case MAYBE_LINE: return park.maybes.isFull();
                case PIGEON_LINE: return park.pigeons.isFull();
                case COMER_LINE: return park.comers.isFull();
                case DUST_LINE:
                case FAINT_LINE:
                case DEEP_LINE: return prints.isFull();
                case ALARM_LINE: return alarms.isFull();
                case HALVES_LINE: return halves.isFull();
                default: return false;
            }
        }

        /** The line of a sort that the token at hand begins; NONE if none does. */
        private int lineHere(int sort) {
            int first = firstLine(sort);
            int behind = firstLine(sort + 1);
            for (int line = first; line < behind; line++) {
                if (isWord(wordOf(line))) {
                    return line;
                }
            }
            return NONE;
        }

        private static int firstLine(int sort) {
            switch (sort) {
                case PARKS: return RATE_LINE;
                case SIGHTS: return DUST_LINE;
                case ALARMS: return ALARM_LINE;
                case PLANS: return HALVES_LINE;
                default: return HALVES_LINE + 1;
            }
        }

        private static String wordOf(int line) {
            switch (line) {
                case RATE_LINE: return "rate";
                case FRESH_LINE: return "fresh";
                case STICKY_LINE: return "sticky";
                case BELIEF_LINE: return "belief";
                case BENCH_LINE: return "bench";
                case PAINTED_LINE: return "painted";
                case CARD_LINE: return "card";
                case MAYBE_LINE: return "maybe";
                case PIGEON_LINE: return "pigeon";
                case COMER_LINE: return "comer";
                case DUST_LINE: return "dust";
                case FAINT_LINE: return "faint";
                case DEEP_LINE: return "deep";
                case ALARM_LINE: return "alarm";
                default: return "halves";
            }
        }

        /** The NUMBERS of a line, a sign each: leastOf and mostOf say what they may be; w is a HABIT's word. */
        private static String shapeOf(int line) {
            switch (line) {
                case RATE_LINE: return "hud";
                case FRESH_LINE: return "f";
                case STICKY_LINE: return "s";
                case BELIEF_LINE: return "p";
                case BENCH_LINE: return "n";
                case PAINTED_LINE: return "bh";
                case CARD_LINE: return "bhu";
                case MAYBE_LINE: return "bhn";
                case PIGEON_LINE: return "bh";
                case COMER_LINE: return "whbddd";
                case ALARM_LINE: return "toll";
                case HALVES_LINE: return "bhh";
                default: return "bh";
            }
        }

        private static int leastOf(char kind) {
            return kind == 'f' || kind == 'n' || kind == 'o' ? 1 : 0;
        }

        private static int mostOf(char kind) {
            switch (kind) {
                case 'h':
                case 'u': return LAST_HOUR;
                case 'f':
                case 's': return 60;
                case 'p': return 100;
                case 'b': return BENCHES - 1;
                case 't':
                case 'o': return 20;
                case 'l': return 99;
                default: return 9;
            }
        }

        private int habitHere() {
            for (int habit = 0; habit < HABITS; habit++) {
                if (isWord(habitWord(habit))) {
                    return habit;
                }
            }
            return NONE;
        }

        private static String habitWord(int habit) {
            switch (habit) {
                case CARD: return "card";
                case TOUCH: return "touch";
                case PRINT: return "print";
                case SHEEP: return "sheep";
                default: return "best";
            }
        }

        private boolean isWord(String word) {
            if (token != WORD || at - from != word.length()) {
                return false;
            }
            for (int i = 0; i < word.length(); i++) {
                if (byteAt(from + i) != word.charAt(i)) {
                    return false;
                }
            }
            return true;
        }

        /** Goes on to the next token, as long as it goes. */
        private void next() {
            while (at < length && isBlank(byteAt(at))) {
                at++;
            }
            from = at;
            value = 0;
            if (at >= length) {
                token = END;
            } else if (isLetter(byteAt(at))) {
                token = WORD;
                while (at < length && isLetter(byteAt(at))) {
                    at++;
                }
            } else if (isDigit(byteAt(at))) {
                takeDigits();
            } else {
                token = byteAt(at) == ';' ? STOP : NO_TOKEN;
                at++;
            }
        }

        private void takeDigits() {
            while (at < length && isDigit(byteAt(at))) {
                if (at - from < 3) {
                    value = value * 10 + byteAt(at) - '0';
                }
                at++;
            }
            token = at - from > 3 ? NO_TOKEN : NUMBER;
        }

        private int byteAt(int i) {
            return tape == null || i < 0 || i >= length || i >= tape.length ? 0 : tape[i] & 255;
        }

        private static boolean isBlank(int b) {
            return b == 10 || b == 32;
        }

        private static boolean isLetter(int b) {
            return b >= 'a' && b <= 'z';
        }

        private static boolean isDigit(int b) {
            return b >= '0' && b <= '9';
        }
    }

    /** A DAY, gone through comer by comer. */
    private static final class Day {
        int harm;
        int trues;
        int found;
        // What each COMER did: ACT, STAGE, COST, MISSED, UNDER_CARD, BELIEVED.
        final Rows done = new Rows(6, COMERS);
        private int worth;
        private int stripes;
        private int sat;
        private final int[] deepOf = new int[BENCHES];
        private final int[] faintOf = new int[BENCHES];
        private final int[] printHour = new int[BENCHES];
        private final int[] printKind = new int[BENCHES];
        private final int[] satSince = new int[BENCHES];
        // Those who come, by hours: PIGEONS by their numbers, COMERS by theirs behind PIGEONS.
        private final int[] queue = new int[PIGEONS + COMERS];
        private final int[] queueHours = new int[PIGEONS + COMERS];
        private int queued;

        /** Forgets what was found out on the days ahead. */
        void forget() {
            trues = 0;
            found = 0;
        }

        /** DAYS one behind the other, what was found out kept: on how many HARM is not that of the day ahead. */
        int runDays(Park park, int days) {
            forget();
            int unlike = 0;
            int ahead = 0;
            for (int d = 0; d < days; d++) {
                goThrough(park);
                if (d > 0 && harm != ahead) {
                    unlike++;
                }
                ahead = harm;
            }
            return unlike;
        }

        void goThrough(Park park) {
            clear(park.comers.size);
            lineUp(park);
            for (int i = 0; i < queued && i < queue.length; i++) {
                int who = queue[i];
                if (who >= PIGEONS) {
                    come(park, who - PIGEONS);
                } else {
                    int bench = park.pigeons.get(who, 0);
                    int hour = park.pigeons.get(who, 1);
                    print(bench, hour, park.stageOf(bench, hour));
                }
            }
        }

        private void clear(int comers) {
            harm = 0;
            worth = 0;
            stripes = 0;
            sat = 0;
            Arrays.fill(deepOf, 0);
            Arrays.fill(faintOf, 0);
            Arrays.fill(printHour, NONE);
            Arrays.fill(printKind, 0);
            Arrays.fill(satSince, 0);
            done.size = 0;
            for (int k = 0; k < comers; k++) {
                done.open();
            }
        }

        private void lineUp(Park park) {
            queued = 0;
            for (int k = 0; k < park.pigeons.size; k++) {
                queueUp(k, park.pigeons.get(k, 1));
            }
            for (int k = 0; k < park.comers.size; k++) {
                queueUp(PIGEONS + k, park.comers.get(k, HOUR));
            }
        }

        /** Stands behind all of the same hour. */
        private void queueUp(int who, int hour) {
            if (queued >= queue.length) {
                return;
            }
            int i = queued;
            while (i > 0 && queueHours[i - 1] > hour) {
                queue[i] = queue[i - 1];
                queueHours[i] = queueHours[i - 1];
                i--;
            }
            queue[i] = who;
            queueHours[i] = hour;
            queued++;
        }

        private void print(int bench, int hour, int stage) {
            if (stage == DRY || bench < 0 || bench >= BENCHES) {
                return;
            }
            if (stage == WET) {
                deepOf[bench]++;
            } else {
                faintOf[bench]++;
            }
            printHour[bench] = hour;
            printKind[bench] = stage;
        }

        private void come(Park park, int k) {
            int bench = park.comers.get(k, BENCH);
            int hour = park.comers.get(k, HOUR);
            if (!park.hasBench(bench)) {
                return;
            }
            int stage = park.stageOf(bench, hour);
            boolean card = park.hasCard(bench, hour);
            // Where nothing was found out yet both sides are 0, and he BELIEVES, as is due.
            boolean believes = trues * 100 >= park.belief * found;
            int act = choose(park, k, stage, card && believes);
            int cost = 0;
            if (act == SITS) {
                cost = atStage(park.comers.get(k, STAIN), stage);
            } else if (act == TOUCHES_AND_GOES) {
                cost = atStage(park.comers.get(k, TOUCHING), stage);
            }
            int missed = act == GOES && stage == DRY ? park.comers.get(k, WORTH) : 0;
            harm += cost + missed;
            done.set(k, ACT, act);
            done.set(k, STAGE, stage);
            done.set(k, COST, cost);
            done.set(k, MISSED, missed);
            done.set(k, UNDER_CARD, card ? 1 : 0);
            done.set(k, BELIEVED, believes ? 1 : 0);
            if (act != GOES) {
                print(bench, hour, stage);
                findOut(card, stage);
            }
            if (act >= TOUCHES_AND_SITS) {
                sit(park, k, stage);
            }
        }

        private void findOut(boolean card, int stage) {
            if (card) {
                found++;
                trues += stage == DRY ? 0 : 1;
            }
        }

        private void sit(Park park, int k, int stage) {
            int bench = park.comers.get(k, BENCH);
            if (!park.hasBench(bench)) {
                return;
            }
            sat++;
            worth += park.comers.get(k, WORTH);
            if (stage == WET) {
                stripes += park.slats[bench];
            }
            // Never PAINTED is NONE, which is ahead of every hour.
            if (park.comers.get(k, HOUR) >= park.painted[bench]) {
                satSince[bench] = 1;
            }
        }

        private int choose(Park park, int k, int stage, boolean warned) {
            int bench = park.comers.get(k, BENCH);
            int touchFirst = stage == DRY ? TOUCHES_AND_SITS : TOUCHES_AND_GOES;
            switch (park.comers.get(k, HABIT)) {
                case CARD: return warned ? GOES : SITS;
                case TOUCH: return touchFirst;
                case PRINT: break;
                case SHEEP: return park.hasBench(bench) && satSince[bench] == 1 ? SITS : GOES;
                default: return park.comers.get(k, WORTH) > atStage(park.comers.get(k, STAIN), stage) ? SITS : GOES;
            }
            int print = latestPrint(bench, park.comers.get(k, HOUR));
            if (print == NONE) {
                return SITS;
            }
            return print == WET ? GOES : touchFirst;
        }

        /** The STAGE of which the latest PRINT tells; NONE if there is none that is new enough. */
        private int latestPrint(int bench, int hour) {
            if (bench < 0 || bench >= BENCHES || printHour[bench] == NONE) {
                return NONE;
            }
            return hour - printHour[bench] > PRINT_TELLS ? NONE : printKind[bench];
        }

        /** WORTH of COMER k, if he SITS, less what it costs him. */
        int has(int k, int itsWorth) {
            int had = done.get(k, ACT) >= TOUCHES_AND_SITS ? itsWorth : 0;
            return had - done.get(k, COST);
        }

        /** What day() answers of the DAY that was gone through. */
        int sum(int what, int benches) {
            switch (what) {
                case 0: return harm;
                case 1: return worth;
                case 2: return sumOf(deepOf);
                case 3: return sumOf(faintOf);
                case 4: return stripes;
                case 5: return sat;
                case 6: return trues;
                case 7: return found;
                default: break;
            }
            int last = Math.min(benches, BENCHES);
            if (what >= 10 && what < 10 + last) {
                return deepOf[what - 10];
            }
            return what >= 20 && what < 20 + last ? faintOf[what - 20] : NONE;
        }

        private static int sumOf(int[] numbers) {
            int sum = 0;
            for (int i = 0; i < numbers.length; i++) {
                sum += numbers[i];
            }
            return sum;
        }
    }

    /** DAYS that are otherwise in one thing: which choice is best, and what comes of it. */
    private static final class Trial {
        int which;
        int best;
        final Day day = new Day();
        private final Park park = new Park();
        private int seed;

        private int harmNow() {
            day.forget();
            day.goThrough(park);
            return day.harm;
        }

        private void first(int choice, int result) {
            which = choice;
            best = result;
        }

        private void less(int choice, int result) {
            if (result < best) {
                first(choice, result);
            }
        }

        private void more(int choice, int result) {
            if (result > best) {
                first(choice, result);
            }
        }

        void hangCard(Park told, int bench) {
            park.copyFrom(told);
            if (!park.hasBench(bench)) {
                return;
            }
            park.cardFrom[bench] = NONE;
            first(NONE, harmNow());
            int from = Math.max(0, park.painted[bench]);
            park.cardFrom[bench] = from;
            for (int t = from; t < HOURS; t++) {
                park.cardTo[bench] = t;
                less(t, harmNow());
            }
        }

        int harmByHabit(Park told, int habit) {
            park.copyFrom(told);
            for (int k = 0; k < park.comers.size; k++) {
                park.comers.set(k, HABIT, habit);
            }
            return harmNow();
        }

        void chooseHabit(Park told) {
            first(0, harmByHabit(told, 0));
            for (int habit = 1; habit < HABITS; habit++) {
                less(habit, harmByHabit(told, habit));
            }
        }

        void draw(Park told, int x, int n) {
            park.copyFrom(told);
            park.comers.size = 0;
            seed = x;
            for (int i = 0; i < n; i++) {
                int k = park.comers.open();
                park.comers.set(k, HABIT, drawBelow(HABITS));
                park.comers.set(k, HOUR, drawBelow(HOURS));
                park.comers.set(k, BENCH, drawBelow(park.benches));
                park.comers.set(k, WORTH, drawBelow(10));
                park.comers.set(k, STAIN, drawBelow(10));
                park.comers.set(k, TOUCHING, drawBelow(10));
            }
            harmNow();
        }

        private int drawBelow(int n) {
            seed = seed * 1103515245 + 12345;
            return n < 1 ? 0 : (seed >>> 16) % n;
        }

        int hasAsTold(Park told, int k) {
            park.copyFrom(told);
            return hasNow(k);
        }

        private int hasNow(int k) {
            day.forget();
            day.goThrough(park);
            return day.has(k, park.comers.get(k, WORTH));
        }

        void comeLater(Park told, int k) {
            park.copyFrom(told);
            first(0, hasNow(k));
            int hour = told.comers.get(k, HOUR);
            for (int later = 1; hour + later < HOURS; later++) {
                park.comers.set(k, HOUR, hour + later);
                more(later, hasNow(k) - later);
            }
        }

        void comeElsewhere(Park told, int k) {
            park.copyFrom(told);
            for (int b = 0; b < park.benches; b++) {
                park.comers.set(k, BENCH, b);
                int has = hasNow(k);
                if (b == 0) {
                    first(b, has);
                } else {
                    more(b, has);
                }
            }
        }

        void leaveOneOut(Park told) {
            for (int k = 0; k < told.comers.size; k++) {
                park.copyFrom(told);
                park.comers.remove(k);
                int harm = harmNow();
                if (k == 0) {
                    first(k, harm);
                } else {
                    less(k, harm);
                }
            }
        }

        void findWorst(Park told) {
            day.forget();
            day.goThrough(told);
            first(0, day.done.get(0, COST) + day.done.get(0, MISSED));
            for (int k = 1; k < told.comers.size; k++) {
                more(k, day.done.get(k, COST) + day.done.get(k, MISSED));
            }
        }

        void paintAnew(Park told, int bench) {
            park.copyFrom(told);
            if (!park.hasBench(bench)) {
                return;
            }
            for (int h = 0; h < HOURS; h++) {
                park.painted[bench] = h;
                int harm = harmNow();
                if (h == 0) {
                    first(h, harm);
                } else {
                    less(h, harm);
                }
            }
        }
    }

    /** The hours at which a BENCH may have been PAINTED, those alone that FIT the PRINTS seen there. */
    private static final class Fits {
        int all;
        final int[] ofStage = new int[STAGES];
        private final int[] hours = new int[MAYBES];
        private final int[] weights = new int[MAYBES];
        private int size;
        private int lastPrint;
        private Park park;

        void find(Park told, Rows prints, int bench) {
            park = told;
            all = 0;
            size = 0;
            lastPrint = 0;
            for (int k = 0; k < prints.size; k++) {
                if (prints.get(k, 1) == bench) {
                    lastPrint = Math.max(lastPrint, prints.get(k, 2));
                }
            }
            boolean none = true;
            for (int k = 0; k < told.maybes.size; k++) {
                if (told.maybes.get(k, 0) == bench) {
                    none = false;
                    weigh(told.maybes.get(k, 1), told.maybes.get(k, 2), prints, bench);
                }
            }
            if (none && told.hasBench(bench)) {
                weigh(told.painted[bench], 1, prints, bench);
            }
        }

        private void weigh(int paint, int weight, Rows prints, int bench) {
            if (size >= MAYBES || !isFit(paint, prints, bench)) {
                return;
            }
            hours[size] = paint;
            weights[size] = weight;
            size++;
            all += weight;
        }

        /** Paint of never is NONE, which no hour is ahead of and at which all is DRY. */
        private boolean isFit(int paint, Rows prints, int bench) {
            for (int k = 0; k < prints.size; k++) {
                int hour = prints.get(k, 2);
                if (prints.get(k, 1) == bench && (hour < paint || park.stage(paint, hour) != prints.get(k, 0))) {
                    return false;
                }
            }
            return true;
        }

        void weighStages(int hour) {
            Arrays.fill(ofStage, 0);
            if (park == null) {
                return;
            }
            for (int i = 0; i < size && i < MAYBES; i++) {
                int stage = park.stage(hours[i], hour);
                if (stage >= DRY && stage <= WET) {
                    ofStage[stage] += weights[i];
                }
            }
        }

        /** Worth of an act (0 go, 1 touch, 2 sit) times all weights, by the STAGES weighed. */
        int worthOf(int act, Rows comers, int k) {
            if (act == 0) {
                return 0;
            }
            int worth = comers.get(k, WORTH);
            int cost = comers.get(k, act == 1 ? TOUCHING : STAIN);
            int costs = ofStage[STICKY] * atStage(cost, STICKY) + ofStage[WET] * atStage(cost, WET);
            int had = act == 1 ? ofStage[DRY] : all;
            return worth * had - costs;
        }

        int bestAct(Rows comers, int k) {
            int best = 0;
            for (int act = 1; act < 3; act++) {
                if (worthOf(act, comers, k) > worthOf(best, comers, k)) {
                    best = act;
                }
            }
            return best;
        }

        int unlikeHours() {
            int unlike = 0;
            for (int h = 0; h < HOURS; h++) {
                if (isThere(h)) {
                    unlike++;
                }
            }
            return unlike;
        }

        int firstHour() {
            for (int h = 0; h < HOURS; h++) {
                if (isThere(h)) {
                    return h;
                }
            }
            return NONE;
        }

        int lastHour() {
            for (int h = LAST_HOUR; h >= 0; h--) {
                if (isThere(h)) {
                    return h;
                }
            }
            return NONE;
        }

        private boolean isThere(int hour) {
            for (int i = 0; i < size && i < MAYBES; i++) {
                if (hours[i] == hour) {
                    return true;
                }
            }
            return false;
        }

        /** TELLS: the hour at which a touch would leave the least of the greatest weight of one STAGE. */
        int tellingHour() {
            if (size == 0) {
                return NONE;
            }
            int telling = NONE;
            int least = all + 1;
            for (int h = lastPrint; h < HOURS; h++) {
                weighStages(h);
                int greatest = Math.max(ofStage[DRY], Math.max(ofStage[STICKY], ofStage[WET]));
                if (greatest < least) {
                    least = greatest;
                    telling = h;
                }
            }
            return telling;
        }
    }

    /**
     * ORDER. All but the last BENCH of a row are begun as soon as the painter is free, for the one behind it is
     * DRY yet; the last one waits for the first one, which dries ahead of all others. So the hour hangs on which
     * one is first and which one is last alone, and of the rows with the same two the first is the ascending one.
     */
    private static final class Painter {
        private static final int TOO_LATE = DRY_BY + 1;

        int allDry;
        private int first;
        private int last;

        void choose(Park park, int from) {
            allDry = TOO_LATE;
            first = 0;
            last = 0;
            if (park.benches == 1) {
                allDry = dryAt(park, from + hoursFor(park, 0));
                return;
            }
            int total = 0;
            for (int b = 0; b < park.benches; b++) {
                total += hoursFor(park, b);
            }
            for (int a = 0; a < park.benches; a++) {
                int oneDry = dryAt(park, from + hoursFor(park, a));
                // The greater the last one, the earlier its row stands among those that begin alike.
                for (int z = park.benches - 1; z >= 0; z--) {
                    int free = from + total - hoursFor(park, z);
                    int end = dryAt(park, Math.max(free, oneDry) + hoursFor(park, z));
                    if (z != a && end < allDry) {
                        allDry = end;
                        first = a;
                        last = z;
                    }
                }
            }
        }

        private static int hoursFor(Park park, int bench) {
            return park.hasBench(bench) ? (park.slats[bench] + 2) / 3 : 0;
        }

        /** The hour at which paint of an hour is DRY; TOO_LATE if it is not by hour 400. */
        private static int dryAt(Park park, int paint) {
            int wetness = park.fresh;
            for (int h = paint; h < TOO_LATE; h++) {
                if (wetness <= 0) {
                    return h;
                }
                wetness -= park.rateAt(h);
            }
            return TOO_LATE;
        }

        int benchAt(int k, int benches) {
            if (k == 0) {
                return first;
            }
            if (k == benches - 1) {
                return last;
            }
            int place = 0;
            for (int b = 0; b < benches; b++) {
                place += b != first && b != last ? 1 : 0;
                if (place == k) {
                    return b;
                }
            }
            return NONE;
        }
    }
}
